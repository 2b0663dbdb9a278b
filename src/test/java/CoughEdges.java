import java.math.BigInteger;
import java.util.function.Supplier;

/** Promises 21 to 29: heard, forget, coughed, next, is, deacons, feasts, colds, sundays. */
final class CoughEdges {
  private CoughEdges() {}

  static void all() {
    heard();
    heardIsRefused();
    forget();
    coughed();
    coughedIsRefused();
    next();
    is();
    deacons();
    feasts();
    feastsAreRefused();
    colds();
    coldsAreRefused();
    sundays();
    sundaysOfAllPlaces();
    sundaysOfScenes();
  }

  private static void heard() {
    Bench.about(21, "HEARD 0 .. 5, as they come: at WORD w BOOK b was LOUD n (0 .. 140).");
    EveryPew x = new EveryPew();
    int[][] rows = {{0, 0, 0}, {15, 1, 140}, {0, 1, 0}, {15, 0, 140}, {7, 0, 1}, {7, 0, 1}};
    for (int i = 0; i < 6; i++) {
      Bench.due("count(4)", x.count(4), i);
      Bench.due("heard " + i, x.heard(rows[i][0], rows[i][1], rows[i][2]), i + 1);
    }
    Bench.due("a seventh", x.heard(0, 0, 0), Bench.FULL);
    Told told = new Told();
    told.heard = rows;
    Bench.due("digest(): in the order in which they came", x.digest(), told.digest(0, 0, 1));
    for (int n = 0; n <= 140; n++) Bench.due("heard(0, 0, " + n + ")", new EveryPew().heard(0, 0, n), 1);
    for (int w = 0; w < 16; w++) Bench.due("heard(" + w + ", 1, 0)", new EveryPew().heard(w, 1, 0), 1);
    Bench.about(21, "HEARD: how many there are.");
    Scene scene = Scene.midway();
    EveryPew y = scene.make();
    Bench.due("heard(15, 1, 140)", y.heard(15, 1, 140), 3);
    scene.church.heard = new int[][] {{3, 0, 7}, {2, 1, 2}, {15, 1, 140}};
    scene.check(y, "heard(15, 1, 140)");
  }

  private static void heardIsRefused() {
    Bench.about(21, "BAD; FULL: 6.");
    for (int w : Bench.outside(0, 15)) Bench.bad("heard(" + w + ", 0, 0)", x -> x.heard(w, 0, 0));
    for (int b : Bench.outside(0, 1)) Bench.bad("heard(0, " + b + ", 0)", x -> x.heard(0, b, 0));
    for (int n : Bench.outside(0, 140)) Bench.bad("heard(0, 0, " + n + ")", x -> x.heard(0, 0, n));
    Bench.refused(Scene::crowded, "heard(0, 0, 0), a seventh", x -> x.heard(0, 0, 0), Bench.FULL);
    Bench.refused(Scene::crowded, "heard(15, 1, 140), a seventh", x -> x.heard(15, 1, 140), Bench.FULL);
  }

  private static void forget() {
    Bench.about(22, "No HEARD: how many there were.");
    for (Supplier<Scene> of : Bench.SCENES) {
      Scene scene = of.get();
      EveryPew x = scene.make();
      Bench.due(scene.name + ": forget()", x.forget(), scene.church.heard.length);
      scene.church.heard = new int[][] {};
      scene.check(x, "forget()");
    }
    EveryPew x = new EveryPew();
    for (int i = 0; i < 6; i++) x.heard(0, 0, i);
    Bench.due("forget() of six", x.forget(), 6);
    Bench.due("forget() of none", x.forget(), 0);
    Bench.due("heard(0, 0, 0): there is room again", x.heard(0, 0, 0), 1);
  }

  /** Five of book 0 and two of book 1, 20 voices each. */
  private static EveryPew twenties() {
    EveryPew x = new EveryPew();
    for (int i = 0; i < 5; i++) x.family(0, 0, 5, 20, 2 * i);
    for (int i = 0; i < 2; i++) x.family(0, 1, 5, 20, 2 * i + 1);
    return x;
  }

  private static void fits(String what, EveryPew x, int sets, int inAll, int inSome) {
    Bench.due(what + ": coughed(0)", x.coughed(0), sets);
    Bench.due(what + ": coughed(1)", x.coughed(1), inAll);
    Bench.due(what + ": coughed(2)", x.coughed(2), inSome);
  }

  private static void coughed() {
    Bench.about(23, "COUGHED: sets of FAMILIES that may have had a COLD (all of them; nobody else) so that all HEARD is so: how many; FAMILIES (bits) in all of them, in some.");
    fits("nobody, nothing heard", new EveryPew(), 1, 0, 0);
    EveryPew x = twenties();
    fits("seven, nothing heard", x, 128, 0, 127);
    x.heard(0, 0, 100);
    fits("all of book 0 heard", x, 4, 0, 96);
    x.forget();
    x.heard(15, 0, 0);
    fits("none of book 0 heard", x, 4, 31, 127);
    x.heard(0, 1, 0);
    fits("nobody heard", x, 1, 127, 127);
    x.forget();
    x.heard(0, 0, 100);
    x.heard(0, 1, 40);
    fits("all heard", x, 1, 0, 0);
    x.forget();
    x.heard(0, 0, 80);
    // One of the five, and either of the two or none or both.
    fits("one of book 0 not heard", x, 20, 0, 127);
    x.heard(0, 0, 60);
    fits("no set: 80 and 60", x, 0, Bench.NONE, 0);
    x.forget();
    x.heard(0, 0, 140);
    fits("no set: louder than can be", x, 0, Bench.NONE, 0);
    x.forget();
    x.heard(0, 0, 1);
    fits("no set: between", x, 0, Bench.NONE, 0);
    x.forget();
    x.cold(0, 1);
    fits("a cold as it is now is no matter", x, 128, 0, 127);
    EveryPew none = new EveryPew();
    none.heard(3, 1, 0);
    fits("nobody, 0 heard", none, 1, 0, 0);
    none.heard(3, 1, 1);
    fits("nobody, 1 heard", none, 0, Bench.NONE, 0);
    EveryPew six = twenties();
    for (int i = 0; i < 6; i++) six.heard(i, 0, i == 5 ? 99 : 100);
    fits("the sixth is not so", six, 0, Bench.NONE, 0);
    Bench.about(23, "COUGHED: how many sets (0), in all (1; bits; NONE: no set), in some (2; bits).");
    int[][] due = {{1, 0, 0}, {1, 4, 4}, {0, Bench.NONE, 0}};
    for (int i = 0; i < 3; i++)
      for (int what = 0; what < 3; what++) {
        int which = what;
        Bench.asks(Bench.SCENES.get(i), "coughed(" + what + ")", y -> y.coughed(which), due[i][what]);
      }
  }

  private static void coughedIsRefused() {
    Bench.about(23, "BAD.");
    for (int what : Bench.outside(0, 2)) Bench.bad("coughed(" + what + ")", x -> x.coughed(what));
  }

  private static void next() {
    Bench.about(24, "HEAR NEXT: the WORD by which, of these sets, the most that make BOOK 0 alike LOUD are fewest; of like ones the first;");
    for (int only = 0; only < 16; only++) {
      EveryPew x = new EveryPew();
      x.family(0, 0, 5, 10, 0);
      x.book(0, 65535 - (1 << only));
      Bench.due("heard at " + only + " alone: next()", x.next(), only);
      if (only > 0) x.book(0, 65535 - (1 << only) - 1);
      Bench.due("heard at 0 and " + only + ": next()", x.next(), 0);
    }
    EveryPew all = twenties();
    Bench.due("seven, all words alike: next()", all.next(), 0);
    all.book(0, 1);
    Bench.due("seven, book 0 kneels at 0: next()", all.next(), 1);
    EveryPew other = new EveryPew();
    other.family(0, 1, 5, 10, 1);
    other.book(1, 1);
    Bench.due("book 1 is no matter: next()", other.next(), 0);
    // Of 1, 2, 4 all eight sets are unlike while all are up; the convert of 4 kneels with book 1.
    EveryPew x = new EveryPew();
    x.family(0, 0, 5, 1, 0);
    x.family(0, 0, 5, 2, 2);
    x.family(2, 0, 5, 4, 4);
    x.book(1, 3);
    Bench.due("1, 2 and 4: next()", x.next(), 2);
    x.heard(0, 0, 3);
    Bench.due("the 4 alone is unknown: next()", x.next(), 2);
    x.heard(2, 0, 7);
    Bench.due("one set: next()", x.next(), 0);
    // 3, 3 and 6: sums 0 3 3 6 6 9 9 12, two alike at most; with the 6 kneeling 0 3 3 6 twice, four alike.
    EveryPew y = new EveryPew();
    y.family(0, 0, 5, 3, 0);
    y.family(0, 0, 5, 3, 2);
    y.family(2, 0, 5, 6, 4);
    y.book(1, 32767);
    Bench.due("the most alike are fewest at the last word: next()", y.next(), 15);
    Bench.about(24, "none: no set.");
    x.heard(2, 0, 3);
    Bench.due("7 and 3 heard at a word: next()", x.next(), Bench.NONE);
    EveryPew none = new EveryPew();
    none.heard(0, 0, 1);
    Bench.due("1 heard of nobody: next()", none.next(), Bench.NONE);
    Bench.about(24, "HEAR NEXT. NONE.");
    Bench.asks(Scene::fresh, "next()", EveryPew::next, 0);
    Bench.asks(Scene::midway, "next()", EveryPew::next, 0);
    Bench.asks(Scene::crowded, "next()", EveryPew::next, Bench.NONE);
  }

  private static void is() {
    Bench.about(25, "IS: KINDS (bits) by which, were a FAMILY of it, all HEARD is so (COLDS as now).");
    EveryPew x = new EveryPew();
    x.family(0, 0, 5, 1, 0);
    Bench.due("nothing heard: is(0)", x.is(0), 63);
    x.heard(0, 0, 1);
    Bench.due("1 of 1: is(0)", x.is(0), 1 + 4 + 8);
    x.forget();
    x.heard(0, 0, 0);
    Bench.due("0 of 1: is(0)", x.is(0), 2 + 16 + 32);
    x.forget();
    x.heard(0, 0, 2);
    Bench.due("2 of 1: is(0)", x.is(0), 0);
    x.cold(0, 1);
    Bench.due("2 with a cold: is(0)", x.is(0), 0);
    x.forget();
    x.heard(0, 0, 0);
    Bench.due("0 with a cold: is(0)", x.is(0), 63);
    Bench.about(25, "IS, as bits.");
    int[] midway = {13, 18, 63};
    for (int f = 0; f < 3; f++) {
      int it = f;
      Bench.asks(Scene::midway, "is(" + f + ")", y -> y.is(it), midway[f]);
    }
    for (int f = 0; f < 7; f++) {
      int it = f;
      Bench.asks(Scene::crowded, "is(" + f + ")", y -> y.is(it), 0);
    }
    Bench.about(25, "BAD.");
    for (Supplier<Scene> of : Bench.SCENES)
      for (int f : Bench.outside(0, of.get().families() - 1)) Bench.refused(of, "is(" + f + ")", y -> y.is(f), Bench.BAD);
  }

  private static void deacons() {
    Bench.about(26, "DEACONS: each BOOK may have the FAMILY of it with most VOICES (told; of like ones the first) be still at a WORD, or not (as if that had a COLD; all else as now): each wants to be LOUDER by more than the other one is (LOUD less LOUD): pairs that rest (bits: 0 neither still, 1 BOOK 0's still, 2 BOOK 1's, 3 both; neither would get more by doing otherwise; no FAMILY: nothing to be still).");
    EveryPew x = new EveryPew();
    Bench.due("no family of either: deacons(0)", x.deacons(0), 15);
    x.family(0, 1, 5, 1, 1);
    Bench.due("none of book 0: deacons(0)", x.deacons(0), 1 + 2);
    x.family(0, 0, 5, 1, 0);
    Bench.due("one of each: deacons(0)", x.deacons(0), 1);
    x.book(0, 1);
    Bench.due("book 0's kneel: deacons(0)", x.deacons(0), 1 + 2);
    x.book(1, 1);
    Bench.due("both kneel: deacons(0)", x.deacons(0), 15);
    Bench.due("neither kneels: deacons(15)", x.deacons(15), 1);
    EveryPew like = new EveryPew();
    like.family(0, 0, 5, 20, 0);
    like.family(0, 0, 5, 20, 2);
    like.cold(0, 1);
    Bench.due("the first of like ones has a cold: deacons(0)", like.deacons(0), 15);
    like.undo();
    like.cold(1, 1);
    Bench.due("the second of like ones has a cold: deacons(0)", like.deacons(0), 1 + 4);
    EveryPew told = new EveryPew();
    told.family(4, 0, 5, 20, 0);
    told.family(0, 0, 5, 19, 2);
    told.cold(0, 1);
    Bench.due("most as told, though hoarse and with a cold: deacons(0)", told.deacons(0), 15);
    Bench.about(26, "DEACONS, as bits.");
    int[] midway = {15, 5, 5, 15};
    int[] words = {0, 1, 2, 15};
    for (int i = 0; i < 4; i++) {
      int w = words[i];
      Bench.asks(Scene::midway, "deacons(" + w + ")", y -> y.deacons(w), midway[i]);
    }
    for (int w : new int[] {0, 15}) {
      Bench.asks(Scene::fresh, "deacons(" + w + ")", y -> y.deacons(w), 15);
      Bench.asks(Scene::crowded, "deacons(" + w + ")", y -> y.deacons(w), 1);
    }
    Bench.about(26, "BAD.");
    for (int w : Bench.outside(0, 15)) Bench.bad("deacons(" + w + ")", y -> y.deacons(w));
  }

  /** By looking at one year behind another. */
  private static int firstYear(int a, int b, int c, int d) {
    for (int year = Math.max(b, d); year < 4000; year++) if ((year - b) % a == 0 && (year - d) % c == 0) return year;
    return Bench.NONE;
  }

  private static void feasts() {
    Bench.about(27, "FEASTS: each a YEARS from year b, c YEARS from year d (a, c 1 .. 40; b, d 0 .. 99): the first year (from both on) in which both fall; none.");
    int[][] rows = {
      {1, 0, 1, 0, 0}, {1, 99, 1, 99, 99}, {1, 0, 1, 99, 99}, {1, 99, 1, 0, 99}, {40, 0, 40, 0, 0}, {40, 99, 40, 99, 99},
      {40, 0, 40, 40, 40}, {40, 80, 40, 0, 80}, {40, 0, 40, 99, -1}, {2, 0, 2, 1, -1}, {2, 0, 1, 1, 2}, {40, 0, 1, 99, 120},
      {1, 99, 40, 0, 120}, {40, 0, 39, 1, 40}, {39, 1, 40, 0, 40}, {40, 99, 39, 98, 1619}, {39, 98, 40, 99, 1619}, {40, 98, 39, 99, 138}};
    for (int[] r : rows) Bench.due("feasts(" + r[0] + ", " + r[1] + ", " + r[2] + ", " + r[3] + ")", new EveryPew().feasts(r[0], r[1], r[2], r[3]), r[4]);
    int[] years = {0, 1, 40, 98, 99};
    for (int a = 1; a <= 40; a++)
      for (int c = 1; c <= 40; c++) {
        EveryPew x = new EveryPew();
        for (int b : years)
          for (int d : years) Bench.due("feasts(" + a + ", " + b + ", " + c + ", " + d + ")", x.feasts(a, b, c, d), firstYear(a, b, c, d));
      }
    Bench.about(27, "FEASTS. NONE.");
    for (Supplier<Scene> of : Bench.SCENES) {
      Bench.asks(of, "feasts(40, 99, 39, 98)", x -> x.feasts(40, 99, 39, 98), 1619);
      Bench.asks(of, "feasts(2, 0, 2, 1)", x -> x.feasts(2, 0, 2, 1), Bench.NONE);
    }
  }

  private static void feastsAreRefused() {
    Bench.about(27, "BAD.");
    for (int a : Bench.outside(1, 40)) {
      Bench.bad("feasts(" + a + ", 0, 1, 0)", x -> x.feasts(a, 0, 1, 0));
      Bench.bad("feasts(1, 0, " + a + ", 0)", x -> x.feasts(1, 0, a, 0));
    }
    for (int b : Bench.outside(0, 99)) {
      Bench.bad("feasts(1, " + b + ", 1, 0)", x -> x.feasts(1, b, 1, 0));
      Bench.bad("feasts(1, 0, 1, " + b + ")", x -> x.feasts(1, 0, 1, b));
    }
  }

  private static void chance(String what, EveryPew x, int w, int c, long above, long below) {
    Bench.due(what + ": colds(" + w + ", " + c + ")", x.colds(w, c), 1);
    Bench.due(what + ": part(0)", x.part(0), above);
    Bench.due(what + ": part(1)", x.part(1), below);
  }

  private static void colds() {
    Bench.about(28, "COLDS: by c of 10 (0 .. 10) each FAMILY without a COLD, apart, has one: the chance of PEACE at a WORD: THE FRACTION.");
    for (int c : new int[] {0, 5, 10}) chance("nobody", new EveryPew(), 15, c, 1, 1);
    // 10 against none: peace by a cold alone.
    EveryPew one = new EveryPew();
    one.family(0, 0, 5, 10, 0);
    long[][] tenths = {{0, 1}, {1, 10}, {1, 5}, {3, 10}, {2, 5}, {1, 2}, {3, 5}, {7, 10}, {4, 5}, {9, 10}, {1, 1}};
    for (int c = 0; c <= 10; c++) chance("one", one, c, c, tenths[c][0], tenths[c][1]);
    one.cold(0, 1);
    for (int c : new int[] {0, 5, 10}) chance("one with a cold", one, 0, c, 1, 1);
    // Five of 1 and an 8, a 16, limit 0: peace only if all seven have one.
    EveryPew seven = new EveryPew();
    seven.church(0);
    for (int i = 0; i < 5; i++) seven.family(0, 0, 5, 1, 2 * i);
    seven.family(0, 1, 5, 8, 1);
    seven.family(0, 1, 5, 16, 3);
    chance("all seven", seven, 0, 1, 1, 10000000);
    chance("all seven", seven, 15, 9, 4782969, 10000000);
    chance("all seven", seven, 0, 5, 1, 128);
    chance("all seven", seven, 0, 0, 0, 1);
    chance("all seven", seven, 0, 10, 1, 1);
    seven.cold(6, 1);
    chance("six without", seven, 0, 1, 1, 1000000);
    for (int f = 0; f < 6; f++) seven.cold(f, 1);
    chance("none without", seven, 0, 1, 1, 1);
    Bench.due("count(2): nobody has another one by it", seven.count(2), 7);
    Bench.about(28, "COLDS are THE FRACTION: 1.");
    for (Supplier<Scene> of : Bench.SCENES) {
      Scene scene = of.get();
      EveryPew x = scene.make();
      Bench.due(scene.name + ": colds(1, 6)", x.colds(1, 6), 1);
      // Midway the 7 alone are heard at word 1; else there is peace whoever has one: 20 is no breach of 30.
      scene.above = scene.name.equals("midway") ? 3 : 1;
      scene.below = scene.name.equals("midway") ? 5 : 1;
      scene.check(x, "colds(1, 6)");
    }
    Bench.about(28, "THE FRACTION is 0 by 1 at first; lowest terms, below above 0.");
    EveryPew x = new EveryPew();
    Bench.due("part(0) at first", x.part(0), 0);
    Bench.due("part(1) at first", x.part(1), 1);
    x.family(0, 0, 5, 10, 0);
    x.family(0, 0, 5, 10, 2);
    // 10 of one is a breach, too: both must have one.
    chance("two", x, 0, 5, 1, 4);
    chance("two", x, 0, 2, 1, 25);
    chance("two, no chance", x, 0, 0, 0, 1);
    chance("two, sure", x, 0, 10, 1, 1);
  }

  private static void coldsAreRefused() {
    Bench.about(28, "BAD.");
    for (int w : Bench.outside(0, 15)) Bench.bad("colds(" + w + ", 5)", x -> x.colds(w, 5));
    for (int c : Bench.outside(0, 10)) Bench.bad("colds(0, " + c + ")", x -> x.colds(0, c));
  }

  /** Sundays on which the one family of 10 voices has a cold; X has no end here until what is left over is taken. */
  private static int sundaysOfOne(int seed, int n) {
    BigInteger x = BigInteger.valueOf(seed);
    int good = 0;
    for (int i = 0; i < n; i++) {
      x = x.multiply(new BigInteger("1103515245")).add(new BigInteger("12345")).mod(new BigInteger("2147483648"));
      if (x.divide(new BigInteger("65536")).mod(new BigInteger("4")).signum() == 0) good++;
    }
    return good;
  }

  private static final int[] SEVEN_VOICES = {1, 2, 4, 8, 16, 5, 11};

  /** The same for seven, by turns of book 0 and 1, at this limit. */
  private static int sundaysOfSeven(int seed, int n, int limit) {
    BigInteger x = BigInteger.valueOf(seed);
    int good = 0;
    for (int i = 0; i < n; i++) {
      int lead = 0;
      for (int f = 0; f < 7; f++) {
        x = x.multiply(new BigInteger("1103515245")).add(new BigInteger("12345")).mod(new BigInteger("2147483648"));
        boolean cold = x.divide(new BigInteger("65536")).mod(new BigInteger("4")).signum() == 0;
        if (!cold) lead += f % 2 == 0 ? SEVEN_VOICES[f] : -SEVEN_VOICES[f];
      }
      if (lead <= limit && lead >= -limit) good++;
    }
    return good;
  }

  private static void sundaysOfAllPlaces() {
    Bench.about(29, "SUNDAYS.");
    for (int limit : new int[] {0, 9, 30}) {
      EveryPew x = new EveryPew();
      x.church(limit);
      for (int f = 0; f < 7; f++) x.family(0, f % 2, 5, SEVEN_VOICES[f], f);
      for (int seed : new int[] {0, 1, 12345, 999998, 999999})
        for (int n : new int[] {0, 1, 2, 59, 60})
          Bench.due("seven, limit " + limit + ": sundays(" + seed + ", " + n + ")", x.sundays(seed, n), sundaysOfSeven(seed, n, limit));
    }
  }

  private static void sundays() {
    Bench.about(29, "SUNDAYS by a SEED (0 .. 999999), n (0 .. 60): X is SEED at first; each Sunday, for each FAMILY in order, X becomes X times 1103515245 and 12345, by 2147483648 what is left over; X by 65536 (cut), by 4 left over, is 0: it has a COLD that Sunday (none else): Sundays with PEACE at all WORDS.");
    EveryPew x = new EveryPew();
    for (int n : new int[] {0, 1, 59, 60}) {
      Bench.due("nobody: sundays(0, " + n + ")", x.sundays(0, n), n);
      Bench.due("nobody: sundays(999999, " + n + ")", x.sundays(999999, n), n);
    }
    x.family(0, 0, 5, 10, 0);
    // 12345, 1406932606, 654583775, 1449466924, 229283573, 1109335178, 1051550459, 1293799192, 794471793, 551188310:
    // by 65536 and then by 4 left over 0 0 0 1 2 3 1 1 2 2.
    int[] due = {0, 1, 2, 3, 3, 3, 3, 3, 3, 3, 3};
    for (int n = 0; n <= 10; n++) Bench.due("one: sundays(0, " + n + ")", x.sundays(0, n), due[n]);
    for (int seed : new int[] {0, 1, 2, 3, 65535, 65536, 500000, 999998, 999999})
      for (int n : new int[] {0, 1, 2, 30, 59, 60}) Bench.due("one: sundays(" + seed + ", " + n + ")", x.sundays(seed, n), sundaysOfOne(seed, n));
    x.cold(0, 1);
    Bench.due("a cold as it is now is no matter: sundays(0, 10)", x.sundays(0, 10), 3);
    x.cold(0, 0);
    x.family(0, 1, 5, 10, 1);
    // Sundays by two: both, the first alone, none, none, none: peace on all but the second.
    int[] two = {0, 1, 1, 2, 3, 4};
    for (int n = 0; n <= 5; n++) Bench.due("two: sundays(0, " + n + ")", x.sundays(0, n), two[n]);
    x.book(0, 32768);
    // At word 15 the 10 of book 1 are heard alone: its cold is wanted, and the first's by the other words.
    int[] late = {0, 1, 1, 1, 1, 1};
    for (int n = 0; n <= 5; n++) Bench.due("two, a word apart: sundays(0, " + n + ")", x.sundays(0, n), late[n]);
    Bench.about(29, "SUNDAYS.");
    for (int i = 0; i < 7 * 60; i += 60) {
      EveryPew seven = new EveryPew();
      for (int f = 0; f < 7; f++) seven.family(0, f % 2, 5, 1, f);
      Bench.due("never more than the limit: sundays(" + i + ", 60)", seven.sundays(i, 60), 60);
    }
    Bench.about(29, "BAD.");
    for (int seed : Bench.outside(0, 999999)) {
      Bench.bad("sundays(" + seed + ", 0)", y -> y.sundays(seed, 0));
      Bench.bad("sundays(" + seed + ", 60)", y -> y.sundays(seed, 60));
    }
    for (int n : Bench.outside(0, 60)) Bench.bad("sundays(0, " + n + ")", y -> y.sundays(0, n));
  }

  private static void sundaysOfScenes() {
    Bench.about(29, "SUNDAYS.");
    for (Supplier<Scene> of : Bench.SCENES) Bench.asks(of, "sundays(999999, 0)", x -> x.sundays(999999, 0), 0);
    Bench.asks(Scene::fresh, "sundays(0, 60)", x -> x.sundays(0, 60), 60);
    Bench.asks(Scene::crowded, "sundays(999999, 60)", x -> x.sundays(999999, 60), 60);
    // By threes 0 0 0, 1 2 3, 1 1 2: all have one; none, so 7 against 21; none again.
    Bench.asks(Scene::midway, "sundays(0, 3)", x -> x.sundays(0, 3), 1);
  }
}
