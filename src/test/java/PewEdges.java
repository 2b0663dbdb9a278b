import java.util.Arrays;
import java.util.function.Supplier;

/** Promises 8 to 12: move, cold, undo, of, at, and what KINDS are. */
final class PewEdges {
  private PewEdges() {}

  static void all() {
    moves();
    moveIsRefused();
    colds();
    coldIsRefused();
    undoes();
    undoLeavesTheRest();
    undoIsRefused();
    of();
    at();
    atIsRefused();
    plain();
    hoarse();
    convert();
    deacon();
    children();
    waverers();
    withACold();
  }

  private static void moves() {
    Bench.about(8, "A MOVE: where it sat.");
    for (int b = 0; b < 2; b++) {
      EveryPew x = new EveryPew();
      x.family(0, b, 5, 5, b + 4);
      Bench.due("move to the first pew", x.move(0, b), b + 4);
      Bench.due("of(0, 4)", x.of(0, 4), b);
      Bench.due("move to the last pew", x.move(0, b + 8), b);
      Bench.due("of(0, 4)", x.of(0, 4), b + 8);
      Bench.due("move back", x.move(0, b + 4), b + 8);
      Bench.due("count(5)", x.count(5), 3);
    }
    Scene scene = Scene.midway();
    EveryPew x = scene.make();
    Bench.due("move(1, 1)", x.move(1, 1), 3);
    scene.church.families[1][4] = 1;
    scene.church.steps = new int[][] {{4, 3, 9, 0}, {4, 3, 9, 4}, {8, 3, 9, 4}};
    scene.check(x, "move(1, 1)");
    Scene last = Scene.crowded();
    EveryPew y = last.make();
    Bench.due("move(6, 2)", y.move(6, 2), 6);
    last.church.families[6][4] = 2;
    pushed(last.church, new int[] {8, 1, 0, 9, 4, 3, 6, 28});
    last.check(y, "move(6, 2), a tenth");
  }

  /** The oldest of the eight goes, this one comes. */
  private static void pushed(Told church, int[] step) {
    System.arraycopy(church.steps, 1, church.steps, 0, 7);
    church.steps[7] = step;
  }

  private static void moveIsRefused() {
    Bench.about(8, "BAD: a PEW of the other BOOK, too;");
    for (Supplier<Scene> of : Bench.SCENES) {
      int n = of.get().families();
      for (int f : Bench.outside(0, n - 1)) {
        Bench.refused(of, "move(" + f + ", 2)", x -> x.move(f, 2), Bench.BAD);
        Bench.refused(of, "move(" + f + ", 7)", x -> x.move(f, 7), Bench.BAD);
      }
    }
    for (int f = 0; f < 2; f++) {
      int it = f;
      for (int pew : new int[] {-2, -1, 10, 11, Integer.MIN_VALUE, Integer.MIN_VALUE + 1, Integer.MAX_VALUE - 1, Integer.MAX_VALUE})
        for (Supplier<Scene> of : Bench.SCENES) Bench.refused(of, "move(" + f + ", " + pew + ")", x -> x.move(it, pew), Bench.BAD);
      for (int i = 0; i < 5; i++) {
        int pew = 2 * i + 1 - f;
        for (Supplier<Scene> of : Bench.SCENES) Bench.refused(of, "move(" + f + ", " + pew + ")", x -> x.move(it, pew), Bench.BAD);
      }
    }
    Bench.about(8, "NO: somebody is in it (it itself, too).");
    Bench.refused(Scene::midway, "move(1, 9)", x -> x.move(1, 9), Bench.NO);
    Bench.refused(Scene::midway, "move(2, 3)", x -> x.move(2, 3), Bench.NO);
    for (int f = 0; f < 3; f++) {
      int it = f;
      int pew = Scene.midway().church.families[f][4];
      Bench.refused(Scene::midway, "move(" + f + ", " + pew + "), where it sits", x -> x.move(it, pew), Bench.NO);
    }
    for (int pew : new int[] {0, 4, 6, 8}) Bench.refused(Scene::crowded, "move(4, " + pew + ")", x -> x.move(4, pew), Bench.NO);
    for (int pew : new int[] {1, 3, 9}) Bench.refused(Scene::crowded, "move(3, " + pew + ")", x -> x.move(3, pew), Bench.NO);
    EveryPew x = new EveryPew();
    for (int i = 0; i < 5; i++) x.family(0, 0, 5, 5, 2 * i);
    for (int i = 0; i < 5; i++) for (int k = 0; k < 5; k++) Bench.due("all pews of the book taken", x.move(i, 2 * k), Bench.NO);
    Bench.due("status(1)", x.status(1), 25);
    Bench.due("count(5)", x.count(5), 0);
  }

  private static void colds() {
    Bench.about(9, "each has a COLD or not (not at first).");
    EveryPew x = new EveryPew();
    x.family(0, 0, 5, 5, 0);
    Bench.due("of(0, 5) at first", x.of(0, 5), 0);
    x.cold(0, 1);
    x.family(0, 1, 5, 5, 1);
    Bench.due("of(1, 5) at first", x.of(1, 5), 0);
    x.church(9);
    x.family(0, 0, 5, 5, 0);
    Bench.due("of(0, 5) at first, behind church", x.of(0, 5), 0);
    Bench.about(9, "Whether a FAMILY has a COLD (1, 0): whether it had.");
    int[][] rows = {{0, 0}, {1, 0}, {1, 1}, {0, 1}, {0, 0}};
    for (int[] row : rows) {
      Bench.due("cold(0, " + row[0] + ")", x.cold(0, row[0]), row[1]);
      Bench.due("of(0, 5)", x.of(0, 5), row[0]);
    }
    Scene scene = Scene.midway();
    EveryPew y = scene.make();
    Bench.due("cold(2, 0)", y.cold(2, 0), 1);
    scene.church.families[2][5] = 0;
    scene.church.steps = new int[][] {{4, 3, 9, 0}, {4, 3, 9, 4}, {8, 3, 9, 4}};
    // With the 19: 0 against 21, 7 against 19, 7 against 21: no peace anywhere.
    scene.church.peace = 0;
    scene.check(y, "cold(2, 0)");
    Scene last = Scene.crowded();
    EveryPew z = last.make();
    Bench.due("cold(6, 1)", z.cold(6, 1), 0);
    last.church.families[6][5] = 1;
    pushed(last.church, new int[] {8, 1, 0, 9, 4, 3, 6, 28});
    last.check(z, "cold(6, 1), a tenth");
  }

  private static void coldIsRefused() {
    Bench.about(9, "BAD.");
    for (Supplier<Scene> of : Bench.SCENES) {
      int n = of.get().families();
      for (int f : Bench.outside(0, n - 1))
        for (int is = 0; is < 2; is++) {
          int has = is;
          Bench.refused(of, "cold(" + f + ", " + is + ")", x -> x.cold(f, has), Bench.BAD);
        }
      for (int is : Bench.outside(0, 1)) Bench.refused(of, "cold(0, " + is + ")", x -> x.cold(0, is), Bench.BAD);
    }
  }

  private static void undoes() {
    Bench.about(10, "(8 at most;");
    for (int told = 1; told <= 12; told++) {
      EveryPew x = new EveryPew();
      x.family(0, 0, 5, 5, 8);
      // Pews 0, 2, 4, 6, 0, ..: behind the i-th it sits in 2 ((i - 1) % 4).
      for (int i = 1; i <= told; i++) x.move(0, 2 * ((i - 1) % 4));
      int may = Math.min(told, 8);
      Bench.due(told + " told, count(5)", x.count(5), may);
      for (int i = 1; i <= may; i++) {
        int left = told - i;
        Bench.due(told + " told, undo()", x.undo(), 0);
        Bench.due(told + " told, of(0, 4) behind undo " + i, x.of(0, 4), left == 0 ? 8 : 2 * ((left - 1) % 4));
        Bench.due(told + " told, count(5) behind undo " + i, x.count(5), may - i);
      }
      Bench.due(told + " told, undo() once more", x.undo(), Bench.NO);
    }
    Bench.about(10, "UNDO: PEWS, COLDS as ahead of the last MOVE, COLD told");
    EveryPew x = new EveryPew();
    x.family(0, 0, 5, 5, 0);
    for (int i = 0; i < 8; i++) x.cold(0, 1);
    x.undo();
    x.undo();
    x.move(0, 2);
    Bench.due("count(5): six and one", x.count(5), 7);
    x.move(0, 10);
    x.move(0, 2);
    x.cold(0, 2);
    Bench.due("count(5): a refused one is none", x.count(5), 7);
    Bench.about(10, "behind a FAMILY that comes none may be).");
    x.family(0, 0, 5, 5, 2);
    Bench.due("count(5): a refused family does not come", x.count(5), 7);
    x.family(0, 0, 5, 5, 0);
    Bench.due("count(5) behind a family that came", x.count(5), 0);
    Bench.due("undo()", x.undo(), Bench.NO);
    x.cold(1, 1);
    Bench.due("undo(): what came behind it may be", x.undo(), 1);
    Bench.due("of(0, 4): it stays moved", x.of(0, 4), 2);
    Bench.about(10, "UNDO: how many COLDS there are then.");
    EveryPew y = new EveryPew();
    for (int f = 0; f < 7; f++) y.family(0, f % 2, 5, 5, f);
    for (int f = 0; f < 7; f++) y.cold(f, 1);
    y.cold(0, 0);
    Bench.due("undo(): seven", y.undo(), 7);
    for (int n = 6; n >= 0; n--) Bench.due("undo()", y.undo(), n);
    Bench.due("undo()", y.undo(), Bench.NO);
  }

  private static void undoLeavesTheRest() {
    Bench.about(10, "UNDO: how many COLDS there are then.");
    Scene midway = Scene.midway();
    EveryPew x = midway.make();
    Bench.due("midway: undo()", x.undo(), 1);
    midway.church.families[0][4] = 4;
    midway.church.steps = new int[][] {{4, 3, 9, 0}};
    midway.check(x, "undo()");
    Scene crowded = Scene.crowded();
    EveryPew y = crowded.make();
    Bench.due("crowded: undo()", y.undo(), 3);
    crowded.church.families[5][4] = 5;
    crowded.church.steps = Arrays.copyOf(crowded.church.steps, 7);
    crowded.check(y, "undo()");
    Bench.about(10, "UNDO: PEWS, COLDS as ahead of the last MOVE, COLD told");
    EveryPew z = new EveryPew();
    z.family(0, 0, 5, 10, 0);
    z.cold(0, 1);
    z.book(1, 6);
    z.heard(3, 1, 9);
    z.type('c');
    z.image(0);
    z.colds(1, 5);
    z.up(16);
    Bench.due("undo()", z.undo(), 0);
    Told told = new Told();
    told.books[1] = 6;
    told.families = new int[][] {{0, 0, 5, 10, 0, 0}};
    told.heard = new int[][] {{3, 1, 9}};
    told.peace = 0;
    Bench.due("digest(): what else was told since stays", z.digest(), told.digest(1, 1, 1));
    Bench.due("status(0)", z.status(0), 1);
    Bench.due("from(0): kept with the cold", z.from(0), 1);
    Bench.due("of(0, 5)", z.of(0, 5), 1);
    Bench.due("undo() of what the image keeps", z.undo(), 0);
  }

  private static void undoIsRefused() {
    Bench.about(10, "NO: none may be.");
    Bench.refused(Scene::fresh, "undo()", EveryPew::undo, Bench.NO);
    EveryPew x = new EveryPew();
    x.family(0, 0, 5, 5, 0);
    Bench.due("undo() behind a family alone", x.undo(), Bench.NO);
    x.cold(0, 1);
    x.church(9);
    Bench.due("undo() behind church", x.undo(), Bench.NO);
    Bench.type(x, "church 5;family 0 0 5 5 0;cold 0;");
    x.family(0, 0, 5, 5, 0);
    x.cold(0, 1);
    x.read();
    Bench.due("undo() behind read", x.undo(), Bench.NO);
    Bench.due("of(0, 5): the text's cold is none to undo", x.of(0, 5), 1);
    Bench.due("status(1)", x.status(1), 3);
    x.book(0, 1);
    x.heard(0, 0, 0);
    x.forget();
    x.image(0);
    x.from(0);
    x.colds(0, 5);
    Bench.due("undo(): no other call is one", x.undo(), Bench.NO);
  }

  private static void of() {
    Bench.about(11, "Of a FAMILY: KIND (0), BOOK (1), TALL (2), VOICES (3), PEW (4), COLD (5; 1, 0).");
    for (Supplier<Scene> of : Bench.SCENES) {
      Told church = of.get().church;
      for (int f = 0; f < church.families.length; f++)
        for (int what = 0; what < 6; what++) {
          int it = f;
          int which = what;
          Bench.asks(of, "of(" + f + ", " + what + ")", x -> x.of(it, which), church.families[f][what]);
        }
    }
    Bench.about(11, "BAD.");
    for (Supplier<Scene> of : Bench.SCENES) {
      for (int f : Bench.outside(0, of.get().families() - 1))
        for (int what = 0; what < 6; what++) {
          int which = what;
          Bench.refused(of, "of(" + f + ", " + what + ")", x -> x.of(f, which), Bench.BAD);
        }
      for (int what : Bench.outside(0, 5)) Bench.refused(of, "of(0, " + what + ")", x -> x.of(0, what), Bench.BAD);
    }
  }

  private static void at() {
    Bench.about(12, "Of a FAMILY at a WORD: whether it KNEELS (0; 1, 0), how high it is (1), how many VOICES (2), whether it SEES (3; 1, 0).");
    // Pews 3, 8, 9; words 0 and 15 kneels book 0, at 1 book 1.
    int[][][] due = {
      {{1, 2, 0, 0}, {0, 5, 7, 1}, {0, 5, 7, 0}, {1, 2, 0, 0}},
      {{0, 6, 2, 1}, {1, 3, 0, 1}, {0, 6, 2, 1}, {0, 6, 2, 1}},
      {{0, 9, 0, 1}, {0, 9, 0, 1}, {0, 9, 0, 1}, {0, 9, 0, 1}}};
    int[] words = {0, 1, 2, 15};
    for (int f = 0; f < 3; f++)
      for (int i = 0; i < 4; i++)
        for (int what = 0; what < 4; what++) {
          int it = f;
          int w = words[i];
          int which = what;
          Bench.asks(Scene::midway, "at(" + f + ", " + w + ", " + what + ")", x -> x.at(it, w, which), due[f][i][what]);
        }
    // Pews 8, 1, 0, 9, 4, 3, 6; all kneel at all words but the deacons; two others are not high at all, one of them in front.
    int[][] crowded = {{0, 10, 20, 1}, {0, 2, 20, 1}, {1, 0, 0, 1}, {1, 1, 0, 0}, {1, 1, 0, 0}, {1, 0, 0, 0}, {1, 2, 0, 0}};
    for (int f = 0; f < 7; f++)
      for (int w : new int[] {0, 15})
        for (int what = 0; what < 4; what++) {
          int it = f;
          int which = what;
          Bench.asks(Scene::crowded, "at(" + f + ", " + w + ", " + what + ")", x -> x.at(it, w, which), crowded[f][what]);
        }
  }

  private static void atIsRefused() {
    Bench.about(12, "BAD.");
    for (Supplier<Scene> of : Bench.SCENES) {
      for (int f : Bench.outside(0, of.get().families() - 1))
        for (int what = 0; what < 4; what++) {
          int which = what;
          Bench.refused(of, "at(" + f + ", 0, " + what + ")", x -> x.at(f, 0, which), Bench.BAD);
        }
      for (int w : Bench.outside(0, 15)) Bench.refused(of, "at(0, " + w + ", 0)", x -> x.at(0, w, 0), Bench.BAD);
      for (int what : Bench.outside(0, 3)) Bench.refused(of, "at(0, 15, " + what + ")", x -> x.at(0, 15, what), Bench.BAD);
    }
  }

  /** Of a family of a kind at the words 0 (neither book), 1 (the own), 2 (the other), 3 (both): one figure for each. */
  private static void row(int kind, int tall, int voices, int what, int... due) {
    for (int b = 0; b < 2; b++) {
      EveryPew x = new EveryPew();
      x.book(b, 2 + 8);
      x.book(1 - b, 4 + 8);
      x.family(kind, b, tall, voices, b);
      for (int w = 0; w < 4; w++)
        Bench.due("kind " + kind + " of book " + b + ", tall " + tall + ", voices " + voices + ": at(0, " + w + ", " + what + ")", x.at(0, w, what), due[w]);
    }
  }

  private static void plain() {
    Bench.about(12, "KINDS, each under the one told, say whether one KNEELS at a WORD, by whether the own BOOK does (o), the other one (t), how high one is, kneeling or not, how many VOICES:");
    // Kneeling, and so height and voices, is by the own kind's rule, not by that of the one it is under.
    row(3, 8, 8, 1, 9, 9, 9, 9);
    row(5, 8, 8, 1, 8, 8, 8, 4);
    row(5, 8, 8, 2, 7, 7, 7, 0);
    Bench.about(12, "0 PLAIN: o; TALL, half (cut) kneeling; VOICES, 0 kneeling.");
    row(0, 5, 5, 0, 0, 1, 0, 1);
    int[] half = {0, 0, 1, 1, 2, 2, 3, 3, 4, 4};
    for (int tall = 1; tall <= 9; tall++) row(0, tall, 5, 1, tall, half[tall], tall, half[tall]);
    for (int voices = 1; voices <= 20; voices++) row(0, 5, voices, 2, voices, 0, voices, 0);
  }

  private static void hoarse() {
    Bench.about(12, "1 HOARSE (under PLAIN): as PLAIN; as PLAIN; half (cut) of PLAIN.");
    row(1, 5, 5, 0, 0, 1, 0, 1);
    int[] half = {0, 0, 1, 1, 2, 2, 3, 3, 4, 4, 5, 5, 6, 6, 7, 7, 8, 8, 9, 9, 10};
    for (int tall = 1; tall <= 9; tall++) row(1, tall, 5, 1, tall, half[tall], tall, half[tall]);
    for (int voices = 1; voices <= 20; voices++) row(1, 5, voices, 2, half[voices], 0, half[voices], 0);
  }

  private static void convert() {
    Bench.about(12, "2 CONVERT (under PLAIN): o or t; as PLAIN; as PLAIN.");
    row(2, 5, 5, 0, 0, 1, 1, 1);
    row(2, 1, 5, 1, 1, 0, 0, 0);
    row(2, 2, 5, 1, 2, 1, 1, 1);
    row(2, 9, 5, 1, 9, 4, 4, 4);
    row(2, 5, 1, 2, 1, 0, 0, 0);
    row(2, 5, 20, 2, 20, 0, 0, 0);
  }

  private static void deacon() {
    Bench.about(12, "3 DEACON (under PLAIN): never; 1 more than PLAIN; as PLAIN.");
    row(3, 5, 5, 0, 0, 0, 0, 0);
    row(3, 1, 5, 1, 2, 2, 2, 2);
    row(3, 9, 5, 1, 10, 10, 10, 10);
    row(3, 5, 1, 2, 1, 1, 1, 1);
    row(3, 5, 20, 2, 20, 20, 20, 20);
  }

  private static void children() {
    Bench.about(12, "4 CHILDREN (under HOARSE): as HOARSE; 2 less than HOARSE, 0 at least; as HOARSE.");
    row(4, 5, 5, 0, 0, 1, 0, 1);
    int[] up = {0, 0, 0, 1, 2, 3, 4, 5, 6, 7};
    int[] kneeling = {0, 0, 0, 0, 0, 0, 1, 1, 2, 2};
    for (int tall = 1; tall <= 9; tall++) row(4, tall, 5, 1, up[tall], kneeling[tall], up[tall], kneeling[tall]);
    row(4, 5, 1, 2, 0, 0, 0, 0);
    row(4, 5, 2, 2, 1, 0, 1, 0);
    row(4, 5, 3, 2, 1, 0, 1, 0);
    row(4, 5, 19, 2, 9, 0, 9, 0);
    row(4, 5, 20, 2, 10, 0, 10, 0);
  }

  private static void waverers() {
    Bench.about(12, "5 WAVERERS (under CONVERT): o and t; as CONVERT; 1 less than CONVERT, 0 at least.");
    row(5, 5, 5, 0, 0, 0, 0, 1);
    row(5, 1, 5, 1, 1, 1, 1, 0);
    row(5, 9, 5, 1, 9, 9, 9, 4);
    row(5, 5, 1, 2, 0, 0, 0, 0);
    row(5, 5, 2, 2, 1, 1, 1, 0);
    row(5, 5, 20, 2, 19, 19, 19, 0);
  }

  private static void withACold() {
    Bench.about(12, "With a COLD: no VOICES.");
    int[][] high = {{9, 4, 9, 4}, {9, 4, 9, 4}, {9, 4, 4, 4}, {10, 10, 10, 10}, {7, 2, 7, 2}, {9, 9, 9, 4}};
    int[] well = {20, 10, 20, 20, 10, 19};
    for (int kind = 0; kind < 6; kind++) {
      EveryPew x = new EveryPew();
      x.book(0, 2 + 8);
      x.book(1, 4 + 8);
      x.family(kind, 0, 9, 20, 0);
      x.cold(0, 1);
      for (int w = 0; w < 4; w++) {
        Bench.due("kind " + kind + ": at(0, " + w + ", 2)", x.at(0, w, 2), 0);
        Bench.due("kind " + kind + ": at(0, " + w + ", 1), as without", x.at(0, w, 1), high[kind][w]);
      }
      Bench.due("of(0, 3): as told", x.of(0, 3), 20);
      x.cold(0, 0);
      Bench.due("kind " + kind + " well again: at(0, 0, 2)", x.at(0, 0, 2), well[kind]);
    }
  }
}
