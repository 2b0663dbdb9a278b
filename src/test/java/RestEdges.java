import java.math.BigInteger;
import java.util.function.Supplier;

/** Promises 30 to 35: part, image, from, status, count, digest. */
final class RestEdges {
  private RestEdges() {}

  static void all() {
    part();
    images();
    imageIsRefused();
    from();
    goesOnWithAllPlacesTaken();
    fromIsRefused();
    status();
    orderOfReasons();
    manyCalls();
    count();
    digest();
  }

  private static void part() {
    Bench.about(30, "THE FRACTION: above (0), below (1).");
    long[][] due = {{0, 1}, {3, 10}, {7, 10}};
    for (int i = 0; i < 3; i++)
      for (int what = 0; what < 2; what++) {
        int which = what;
        Bench.asks(Bench.SCENES.get(i), "part(" + what + ")", x -> x.part(which), due[i][what]);
      }
    Bench.about(30, "BAD.");
    for (int what : Bench.outside(0, 1)) Bench.bad("part(" + what + ")", x -> x.part(what));
  }

  private static void images() {
    Bench.about(31, "IMAGES 0, 1 keep all but them, THE TEXT, THE FRACTION and STATUS; what may be undone they keep; it goes on from one.");
    for (Supplier<Scene> of : Bench.SCENES)
      for (int i = 0; i < 2; i++) {
        Scene scene = of.get();
        EveryPew x = scene.make();
        Bench.due(scene.name + ": image(" + i + ")", x.image(i), 1);
        scene.images[i] = scene.church;
        // All of the crowded one and of its images once more would bring it beyond its 512 calls.
        if (!scene.name.equals("crowded")) scene.check(x, "image(" + i + ")");
        else imageOfCrowded(scene, x, i);
      }
    Bench.about(31, "An IMAGE is kept: 1.");
    EveryPew x = new EveryPew();
    x.church(3);
    Bench.due("image(0)", x.image(0), 1);
    x.church(4);
    Bench.due("image(1)", x.image(1), 1);
    x.church(5);
    Bench.due("image(0) again", x.image(0), 1);
    x.church(6);
    x.from(1);
    Bench.due("count(1): image 1 is not image 0", x.count(1), 4);
    x.from(0);
    Bench.due("count(1): image 0 as kept last", x.count(1), 5);
  }

  /** What it keeps of a full church: all eight that may be undone, whatever comes behind it. */
  private static void imageOfCrowded(Scene scene, EveryPew x, int i) {
    long digest = scene.church.digest(150, scene.above, scene.below);
    Bench.due("digest(): the church itself stays", x.digest(), digest);
    x.church(1);
    Bench.due("from(" + i + ")", x.from(i), 1);
    Bench.due("digest()", x.digest(), digest);
    int[] colds = {3, 2, 2, 3, 2, 2, 1, 0};
    for (int n : colds) Bench.due("undo()", x.undo(), n);
    Bench.due("undo() a ninth time", x.undo(), Bench.NO);
    Bench.due("from(" + i + ") again", x.from(i), 1);
    Bench.due("digest() again", x.digest(), digest);
    Bench.due("the other image", x.from(1 - i), 1);
    Bench.due("digest() of the other", x.digest(), scene.images[1 - i].digest(150, scene.above, scene.below));
  }

  private static void imageIsRefused() {
    Bench.about(31, "BAD.");
    for (int i : Bench.outside(0, 1)) Bench.bad("image(" + i + ")", x -> x.image(i));
  }

  private static void from() {
    Bench.about(32, "It goes on from an IMAGE: 1.");
    Scene midway = Scene.midway();
    EveryPew x = midway.make();
    Bench.due("midway: from(1)", x.from(1), 1);
    midway.church = midway.images[1];
    midway.check(x, "from(1)");
    for (int i = 0; i < 2; i++) {
      Scene crowded = Scene.crowded();
      EveryPew y = crowded.make();
      Bench.due("crowded: from(" + i + ")", y.from(i), 1);
      crowded.church = crowded.images[i];
      crowded.check(y, "from(" + i + ")");
    }
    EveryPew z = new EveryPew();
    z.image(0);
    z.family(0, 0, 5, 5, 0);
    z.cold(0, 1);
    z.heard(0, 0, 5);
    Bench.due("from(0), an image of nothing", z.from(0), 1);
    for (int what : new int[] {0, 2, 4, 5}) Bench.due("count(" + what + ")", z.count(what), 0);
    Bench.due("family(..): the first again", z.family(0, 0, 5, 5, 0), 0);
    Bench.due("of(0, 5)", z.of(0, 5), 0);
    Bench.due("from(0): the image is as it was", z.from(0), 1);
    Bench.due("count(0)", z.count(0), 0);
  }

  private static void goesOnWithAllPlacesTaken() {
    Bench.about(32, "It goes on from an IMAGE: 1.");
    Scene scene = Scene.crowded();
    EveryPew x = scene.make();
    long digest = scene.church.digest(150, scene.above, scene.below);
    x.image(0);
    x.church(1);
    Bench.due("from(0)", x.from(0), 1);
    Bench.due("an eighth family", x.family(0, 0, 5, 5, 2), Bench.FULL);
    Bench.due("a seventh heard", x.heard(0, 0, 0), Bench.FULL);
    Bench.due("digest() as kept", x.digest(), digest);
    // A ninth that may be undone: the oldest goes, though not out of the image.
    Bench.due("move(6, 2)", x.move(6, 2), 6);
    Bench.due("count(5)", x.count(5), 8);
    int[] colds = {3, 3, 2, 2, 3, 2, 2, 1};
    for (int n : colds) Bench.due("undo()", x.undo(), n);
    Bench.due("undo() a ninth time", x.undo(), Bench.NO);
    x.forget();
    x.book(0, 0);
    x.cold(6, 1);
    Bench.due("from(0) again", x.from(0), 1);
    Bench.due("digest() as kept, whatever came since", x.digest(), digest);
    int[] kept = {3, 2, 2, 3, 2, 2, 1, 0};
    for (int n : kept) Bench.due("undo()", x.undo(), n);
    Bench.due("undo() a ninth time", x.undo(), Bench.NO);
  }

  private static void fromIsRefused() {
    Bench.about(32, "BAD; NO: none was kept.");
    for (int i : Bench.outside(0, 1)) Bench.bad("from(" + i + ")", x -> x.from(i));
    Bench.refused(Scene::fresh, "from(0)", x -> x.from(0), Bench.NO);
    Bench.refused(Scene::fresh, "from(1)", x -> x.from(1), Bench.NO);
    Bench.refused(Scene::midway, "from(0)", x -> x.from(0), Bench.NO);
  }

  private static void status() {
    Bench.about(33, "STATUS: BAD (0), NO (1), FULL (2).");
    int[][] due = {{0, 0, 0}, {2, 1, 0}, {1, 1, 3}};
    for (int i = 0; i < 3; i++)
      for (int what = 0; what < 3; what++) {
        int which = what;
        Bench.asks(Bench.SCENES.get(i), "status(" + what + ")", x -> x.status(which), due[i][what]);
      }
    Bench.about(33, "STATUS: how many calls were refused as BAD, NO, FULL (each answer told so below is such a one).");
    EveryPew x = new EveryPew();
    // NONE, 7, a FAULT and 0 are answers, not refusals.
    x.breach(0);
    x.seats(Bench.NONE);
    x.change(0);
    x.next();
    x.feasts(2, 0, 2, 1);
    x.heard(0, 0, 1);
    x.coughed(1);
    x.next();
    x.read();
    x.clear();
    x.forget();
    for (int what = 0; what < 3; what++) Bench.due("status(" + what + "), nothing refused", x.status(what), 0);
    Bench.about(33, "-1: another what (counts as BAD).");
    for (Supplier<Scene> of : Bench.SCENES)
      for (int what : Bench.outside(0, 2)) Bench.refused(of, "status(" + what + ")", y -> y.status(what), -1, Bench.BAD);
  }

  private static void orderOfReasons() {
    Bench.about(33, "Refused, changing nothing but STATUS, the first of: BAD -2 a number is not as told; NO -3 as told; FULL -4 (where others are told they count as these).");
    Bench.due("BAD", EveryPew.BAD, -2);
    Bench.due("NO", EveryPew.NO, -3);
    Bench.due("FULL", EveryPew.FULL, -4);
    Bench.due("NONE", EveryPew.NONE, -1);
    Bench.refused(Scene::crowded, "family: all three", x -> x.family(0, 0, 10, 5, 0), Bench.BAD);
    Bench.refused(Scene::crowded, "type(128): both", x -> x.type(128), Bench.BAD);
    Bench.refused(Scene::crowded, "heard(0, 0, 141): both", x -> x.heard(0, 0, 141), Bench.BAD);
    Bench.refused(Scene::midway, "family(.., 9) of book 0: both", x -> x.family(0, 0, 5, 5, 9), Bench.BAD);
    Bench.refused(Scene::midway, "move(0, 9): both", x -> x.move(0, 9), Bench.BAD);
    Bench.refused(Scene::midway, "seats(3)", x -> x.seats(3), -10, Bench.BAD);
  }

  private static void manyCalls() {
    Bench.about(33, "An object is used for at most 512 calls after it has been made; what later calls answer is free.");
    EveryPew bad = new EveryPew();
    for (int i = 0; i < 511; i++) bad.up(16);
    Bench.due("511 refused as BAD: status(0)", bad.status(0), 511);
    EveryPew no = new EveryPew();
    for (int i = 0; i < 511; i++) no.undo();
    Bench.due("511 refused as NO: status(1)", no.status(1), 511);
    EveryPew full = new EveryPew();
    for (int i = 0; i < 511; i++) full.heard(0, 0, 0);
    Bench.due("505 refused as FULL: status(2)", full.status(2), 505);
    EveryPew moved = new EveryPew();
    moved.family(0, 0, 5, 5, 0);
    for (int i = 1; i <= 509; i++) Bench.due("move " + i, moved.move(0, 2 * (i % 5)), 2 * ((i - 1) % 5));
    Bench.due("count(5) behind 509 moves", moved.count(5), 8);
    moved.undo();
    EveryPew begun = new EveryPew();
    for (int i = 0; i < 255; i++) {
      begun.family(0, 1, 5, 5, 9);
      Bench.due("church(" + i % 31 + ")", begun.church(i % 31), 1);
    }
    Bench.due("count(0)", begun.count(0), 0);
  }

  private static void count() {
    Bench.about(34, "How many: 0 FAMILIES, 1 LIMIT, 2 COLDS, 3 WORDS of PEACE, 4 HEARD, 5 that may be undone, 6 bytes of THE TEXT.");
    int[][] due = {{0, 9, 0, 16, 0, 0, 0}, {3, 4, 1, 2, 2, 2, 17}, {7, 30, 3, 16, 6, 8, 150}};
    for (int i = 0; i < 3; i++)
      for (int what = 0; what < 7; what++) {
        int which = what;
        Bench.asks(Bench.SCENES.get(i), "count(" + what + ")", x -> x.count(which), due[i][what]);
      }
    EveryPew x = new EveryPew();
    for (int f = 0; f < 7; f++) x.family(3, f % 2, 5, 5, f);
    for (int f = 0; f < 7; f++) {
      Bench.due("count(2)", x.count(2), f);
      x.cold(f, 1);
    }
    Bench.due("count(2), all", x.count(2), 7);
    for (int n = 0; n <= 16; n++) {
      EveryPew y = new EveryPew();
      y.family(0, 0, 5, 10, 0);
      y.book(0, (1 << n) - 1);
      Bench.due("count(3), kneeling at " + n, y.count(3), n);
    }
    Bench.about(34, "BAD.");
    for (int what : Bench.outside(0, 6)) Bench.bad("count(" + what + ")", y -> y.count(what));
  }

  private static void digest() {
    Bench.about(35, "h = 1171; then h = 31 h + v for each v: count(0) to count(6); BOOKS; of FAMILIES KIND, BOOK, TALL, VOICES, PEW, COLD (1, 0); of HEARD WORD, BOOK, n; THE FRACTION.");
    for (Supplier<Scene> of : Bench.SCENES) {
      Scene scene = of.get();
      BigInteger sum = scene.church.sum(scene.text.length(), scene.above, scene.below);
      Bench.due(scene.name + ": the sum goes beyond 64 bits", sum.bitLength() > 63 ? 1 : 0, 1);
      Bench.asks(of, "digest()", EveryPew::digest, sum.longValue());
    }
    // 0 9 0 16 0 0 0, no words, 0 by 1.
    long h = 1171;
    for (int v : new int[] {0, 9, 0, 16, 0, 0, 0, 0, 0, 0, 1}) h = 31 * h + v;
    Bench.due("digest() of a new object", new EveryPew().digest(), h);
  }
}
