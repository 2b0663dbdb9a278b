import java.util.function.Supplier;

/** Promises 13 to 20: up, seers, loud, breach, canNot, seats, change, still. */
final class ServiceEdges {
  private ServiceEdges() {}

  static void all() {
    nothingIsChanged();
    up();
    seers();
    loud();
    peace();
    breach();
    canNot();
    seats();
    seatsAreRefused();
    change();
    still();
  }

  private static void nothingIsChanged() {
    Bench.about(17, "(Nothing is changed by these.)");
    Bench.asks(Scene::fresh, "canNot()", EveryPew::canNot, 0);
    Bench.asks(Scene::midway, "canNot()", EveryPew::canNot, 32771);
    Bench.asks(Scene::crowded, "canNot()", EveryPew::canNot, 0);
  }

  private static void words(int promise, Bench.Call at16, Bench.Call atLess, Bench.Call atMost, Bench.Call atLeast) {
    Bench.about(promise, "BAD.");
    Bench.bad("word 16", at16);
    Bench.bad("word -1", atLess);
    Bench.bad("the greatest number", atMost);
    Bench.bad("the least number", atLeast);
  }

  private static void up() {
    Bench.about(13, "UP at a WORD: FAMILIES (bits) that do not KNEEL.");
    int[] due = {6, 5, 7, 7, 7, 7, 7, 7, 7, 7, 7, 7, 7, 7, 7, 6};
    for (int w = 0; w < 16; w++) {
      int word = w;
      Bench.asks(Scene::midway, "up(" + w + ")", x -> x.up(word), due[w]);
    }
    Bench.about(13, "UP, as bits.");
    for (int w : new int[] {0, 15}) {
      Bench.asks(Scene::fresh, "up(" + w + ")", x -> x.up(w), 0);
      Bench.asks(Scene::crowded, "up(" + w + ")", x -> x.up(w), 3);
    }
    EveryPew x = new EveryPew();
    for (int f = 0; f < 7; f++) x.family(f % 6, f % 2, 5, 5, f);
    Bench.due("up(0), all seven", x.up(0), 127);
    x.cold(0, 1);
    Bench.due("up(15), a cold is no matter", x.up(15), 127);
    x.book(0, 65535);
    x.book(1, 65535);
    Bench.due("up(15), all but the deacon", x.up(15), 8);
    words(13, y -> y.up(16), y -> y.up(-1), y -> y.up(Integer.MAX_VALUE), y -> y.up(Integer.MIN_VALUE));
  }

  /** Whether one of tall 5 in pew 4 sees, with another of this height in that pew. */
  private static void seesWith(int tall, int pew, int due) {
    EveryPew x = new EveryPew();
    x.family(0, 0, 5, 5, 4);
    x.family(0, pew % 2, tall, 5, pew);
    Bench.due("one of " + tall + " in pew " + pew + ": at(0, 0, 3)", x.at(0, 0, 3), due);
    Bench.due("one of " + tall + " in pew " + pew + ": seers(0)", x.seers(0) & 1, due);
  }

  private static void seers() {
    Bench.about(14, "One SEES at a WORD, if nobody in a PEW of lesser number is as high as oneself or higher.");
    for (int pew = 0; pew < 10; pew++) {
      if (pew == 4) continue;
      for (int tall = 1; tall <= 9; tall++) seesWith(tall, pew, pew < 4 && tall >= 5 ? 0 : 1);
    }
    EveryPew low = new EveryPew();
    low.family(4, 0, 1, 5, 0);
    low.family(4, 1, 2, 5, 1);
    Bench.due("seers(0), both not high at all", low.seers(0), 1);
    low.move(0, 2);
    Bench.due("seers(0), the other in front", low.seers(0), 2);
    EveryPew alone = new EveryPew();
    alone.family(4, 1, 1, 1, 9);
    Bench.due("seers(0), one alone in the last pew", alone.seers(0), 1);
    Bench.about(14, "SEERS at a WORD: FAMILIES (bits) that SEE.");
    int[] due = {6, 7, 6, 6, 6, 6, 6, 6, 6, 6, 6, 6, 6, 6, 6, 6};
    for (int w = 0; w < 16; w++) {
      int word = w;
      Bench.asks(Scene::midway, "seers(" + w + ")", x -> x.seers(word), due[w]);
    }
    Bench.about(14, "SEERS, as bits.");
    for (int w : new int[] {0, 15}) {
      Bench.asks(Scene::fresh, "seers(" + w + ")", x -> x.seers(w), 0);
      // From the front: 0 of family 2, 2 of 1, 0 of 5, 1 of 4, 2 of 6, 10 of 0, 1 of 3.
      Bench.asks(Scene::crowded, "seers(" + w + ")", x -> x.seers(w), 7);
    }
    EveryPew x = new EveryPew();
    for (int f = 0; f < 7; f++) x.family(0, f % 2, f + 1, 5, f);
    Bench.due("seers(0), rising", x.seers(0), 127);
    words(14, y -> y.seers(16), y -> y.seers(-1), y -> y.seers(Integer.MAX_VALUE), y -> y.seers(Integer.MIN_VALUE));
  }

  private static void loud() {
    Bench.about(15, "LOUD of a BOOK at a WORD: all VOICES of its FAMILIES.");
    EveryPew x = new EveryPew();
    for (int i = 0; i < 5; i++) {
      Bench.due("loud(0, 0), " + i, x.loud(0, 0), 20 * i);
      x.family(0, 0, 5, 20, 2 * i);
    }
    Bench.due("loud(0, 0), the most there can be", x.loud(0, 0), 100);
    Bench.due("loud(15, 1), no family", x.loud(15, 1), 0);
    x.family(0, 1, 5, 1, 1);
    Bench.due("loud(15, 1), the least of one", x.loud(15, 1), 1);
    for (int f = 0; f < 5; f++) x.cold(f, 1);
    Bench.due("loud(0, 0), all with a cold", x.loud(0, 0), 0);
    Bench.about(15, "LOUD.");
    int[][] due = {{0, 2}, {7, 0}, {7, 2}};
    for (int w = 0; w < 16; w++)
      for (int b = 0; b < 2; b++) {
        int word = w;
        int book = b;
        Bench.asks(Scene::midway, "loud(" + w + ", " + b + ")", y -> y.loud(word, book), due[w == 15 ? 0 : Math.min(w, 2)][b]);
      }
    for (int b = 0; b < 2; b++) {
      int book = b;
      Bench.asks(Scene::fresh, "loud(15, " + b + ")", y -> y.loud(15, book), 0);
      Bench.asks(Scene::crowded, "loud(0, " + b + ")", y -> y.loud(0, book), 20);
    }
    words(15, y -> y.loud(16, 0), y -> y.loud(-1, 1), y -> y.loud(Integer.MAX_VALUE, 0), y -> y.loud(Integer.MIN_VALUE, 1));
    for (int b : Bench.outside(0, 1)) Bench.bad("loud(15, " + b + ")", y -> y.loud(15, b));
  }

  /** At each word deacons make these loud: up to 40 of either book. */
  private static EveryPew of(int limit, int loud0, int loud1) {
    EveryPew x = new EveryPew();
    x.church(limit);
    int[] louds = {loud0, loud1};
    for (int b = 0; b < 2; b++) {
      if (louds[b] > 0) x.family(3, b, 5, Math.min(louds[b], 20), b);
      if (louds[b] > 20) x.family(3, b, 5, louds[b] - 20, b + 2);
    }
    return x;
  }

  private static void peace() {
    Bench.about(16, "PEACE at a WORD: neither is LOUDER by more than LIMIT.");
    for (int limit = 0; limit <= 30; limit++)
      for (int less : new int[] {0, 1, 9}) {
        Bench.due("limit " + limit + ", more by it: breach(0)", of(limit, less + limit, less).breach(0), Bench.NONE);
        Bench.due("limit " + limit + ", less by it: breach(0)", of(limit, less, less + limit).breach(0), Bench.NONE);
        Bench.due("limit " + limit + ", one more: breach(0)", of(limit, less + limit + 1, less).breach(0), 0);
        Bench.due("limit " + limit + ", one less: breach(0)", of(limit, less, less + limit + 1).breach(0), 0);
      }
    EveryPew first = new EveryPew();
    first.family(0, 0, 5, 9, 0);
    Bench.due("at first, 9 voices: count(3)", first.count(3), 16);
    first.church(9);
    first.family(0, 1, 5, 10, 1);
    Bench.due("nine as at first, 10 voices: count(3)", first.count(3), 0);
  }

  private static void breach() {
    Bench.about(16, "BREACH: the first WORD from w (0 .. 15) on without PEACE; none.");
    for (int only = 0; only < 16; only++) {
      EveryPew x = new EveryPew();
      x.family(0, 0, 5, 10, 0);
      x.book(0, 65535 - (1 << only));
      for (int w = 0; w < 16; w++) Bench.due("at " + only + " alone: breach(" + w + ")", x.breach(w), w <= only ? only : Bench.NONE);
    }
    Bench.about(16, "BREACH. NONE.");
    for (int w = 0; w < 16; w++) {
      int word = w;
      Bench.asks(Scene::fresh, "breach(" + w + ")", x -> x.breach(word), Bench.NONE);
      Bench.asks(Scene::crowded, "breach(" + w + ")", x -> x.breach(word), Bench.NONE);
      Bench.asks(Scene::midway, "breach(" + w + ")", x -> x.breach(word), w == 0 ? 1 : w == 15 ? Bench.NONE : w);
    }
    words(16, y -> y.breach(16), y -> y.breach(-1), y -> y.breach(Integer.MAX_VALUE), y -> y.breach(Integer.MIN_VALUE));
  }

  private static void canNot() {
    Bench.about(17, "CAN NOT: WORDS (bits) at which one BOOK KNEELS, the other one does not.");
    int[][] rows = {{0, 0, 0}, {65535, 0, 65535}, {0, 65535, 65535}, {65535, 65535, 0}, {1, 32768, 32769}, {3, 6, 5}, {32768, 0, 32768}};
    for (int[] row : rows) {
      EveryPew x = new EveryPew();
      x.book(0, row[0]);
      x.book(1, row[1]);
      Bench.due("canNot() of " + row[0] + " and " + row[1], x.canNot(), row[2]);
    }
    Bench.about(17, "CAN NOT, as bits.");
    for (int w = 0; w < 16; w++)
      for (int b = 0; b < 2; b++) {
        EveryPew x = new EveryPew();
        x.book(b, 1 << w);
        Bench.due("book " + b + " alone kneels at " + w + ": canNot()", x.canNot(), 1 << w);
        x.book(1 - b, 1 << w);
        Bench.due("both kneel at " + w + ": canNot()", x.canNot(), 0);
      }
  }

  /** Families of PLAIN ones, a BOOK and TALL each; who see at best, then where they sit in the first such way. */
  private static void best(int[][] families, int seen, int... pews) {
    EveryPew x = new EveryPew();
    int[] free = {8, 9};
    for (int[] f : families) {
      x.family(0, f[0], f[1], 5, free[f[0]]);
      free[f[0]] -= 2;
    }
    Bench.due("seats(NONE)", x.seats(Bench.NONE), seen);
    for (int f = 0; f < pews.length; f++) Bench.due("seats(" + f + ")", x.seats(f), pews[f]);
    Bench.due("seats(" + pews.length + "), one too many", x.seats(pews.length), -10);
  }

  private static void seats() {
    Bench.about(18, "SEATS: how all might sit (each in a PEW of the own BOOK, two in none) so that most SEE, all WORDS together (a FAMILY at a WORD is one): how many; the PEW of a FAMILY in the first such way (rising, by FAMILIES).");
    best(new int[][] {}, 0);
    best(new int[][] {{0, 1}}, 16, 0);
    best(new int[][] {{1, 9}}, 16, 1);
    best(new int[][] {{1, 5}, {0, 5}}, 16, 1, 0);
    best(new int[][] {{0, 5}, {1, 5}}, 16, 0, 1);
    best(new int[][] {{1, 5}, {0, 4}}, 32, 1, 0);
    best(new int[][] {{0, 5}, {1, 4}}, 32, 2, 1);
    best(new int[][] {{0, 5}, {0, 4}}, 32, 2, 0);
    // All pews of a book taken, so no choice but of who sits where.
    best(new int[][] {{0, 5}, {0, 5}, {0, 5}, {0, 5}, {0, 5}}, 16, 0, 2, 4, 6, 8);
    best(new int[][] {{1, 5}, {1, 5}, {1, 5}, {1, 5}, {1, 5}}, 16, 1, 3, 5, 7, 9);
    best(new int[][] {{0, 9}, {0, 8}, {0, 7}, {0, 6}, {0, 5}}, 80, 8, 6, 4, 2, 0);
    best(new int[][] {{1, 9}, {1, 8}, {1, 7}, {1, 6}, {1, 5}}, 80, 9, 7, 5, 3, 1);
    // Seven: all odd pews taken, so the 6 and the 9 best sit in 6 and 8, behind three who see; two behind see nothing.
    best(new int[][] {{1, 1}, {1, 2}, {1, 3}, {1, 4}, {1, 5}, {0, 9}, {0, 6}}, 80, 1, 3, 5, 7, 9, 8, 6);
    Bench.about(18, "SEATS: how many (f = NONE), the PEW of a FAMILY.");
    Bench.asks(Scene::fresh, "seats(NONE)", x -> x.seats(Bench.NONE), 0);
    Bench.asks(Scene::midway, "seats(NONE)", x -> x.seats(Bench.NONE), 47);
    int[] midway = {0, 1, 3};
    for (int f = 0; f < 3; f++) {
      int it = f;
      Bench.asks(Scene::midway, "seats(" + f + ")", x -> x.seats(it), midway[f]);
    }
    // Four heights, 0 1 2 10, each to be seen once at a word; 10 behind four pews at least, the deacon of 2 behind three.
    Bench.asks(Scene::crowded, "seats(NONE)", x -> x.seats(Bench.NONE), 64);
    int[] crowded = {4, 3, 0, 1, 2, 5, 6};
    for (int f = 0; f < 7; f++) {
      int it = f;
      Bench.asks(Scene::crowded, "seats(" + f + ")", x -> x.seats(it), crowded[f]);
    }
    // Children up to 2 tall are not high at all, wherever they sit: whoever is in front sees, no other.
    EveryPew low = new EveryPew();
    int[] behind = {8, 9, 6, 7};
    for (int f = 0; f < 4; f++) low.family(4, f % 2, 1 + f / 2, 5, behind[f]);
    Bench.due("none is high: seats(NONE)", low.seats(Bench.NONE), 16);
    for (int f = 0; f < 4; f++) Bench.due("none is high: seats(" + f + ")", low.seats(f), f);
    sumOfWords(7, 25, 2, 1);
    sumOfWords(8, 24, 0, 1);
    sumOfWords(9, 25, 0, 1);
  }

  /** One of 8, 4 high while kneeling at so many words, and a deacon of 5: who is ahead hangs on all words together. */
  private static void sumOfWords(int kneeling, int seen, int pew0, int pew1) {
    EveryPew x = new EveryPew();
    x.book(0, (1 << kneeling) - 1);
    x.family(0, 0, 8, 5, 8);
    x.family(3, 1, 4, 5, 9);
    Bench.due("kneeling at " + kneeling + ": seats(NONE)", x.seats(Bench.NONE), seen);
    Bench.due("kneeling at " + kneeling + ": seats(0)", x.seats(0), pew0);
    Bench.due("kneeling at " + kneeling + ": seats(1)", x.seats(1), pew1);
  }

  private static void seatsAreRefused() {
    Bench.about(18, "BAD: -10.");
    for (Supplier<Scene> of : Bench.SCENES) {
      int n = of.get().families();
      for (int f : new int[] {-2, -3, -10, n, n + 1, Integer.MIN_VALUE, Integer.MAX_VALUE})
        Bench.refused(of, "seats(" + f + ")", x -> x.seats(f), -10, Bench.BAD);
    }
  }

  private static void changes(String what, EveryPew x, int who, int words) {
    Bench.due(what + ": change(0)", x.change(0), who);
    Bench.due(what + ": change(1)", x.change(1), words);
  }

  private static void change() {
    Bench.about(19, "CHANGE: the FAMILY by whose having the other BOOK (its PEW is no matter) there would be PEACE at most WORDS; of like ones the first;");
    EveryPew like = new EveryPew();
    like.church(0);
    for (int i = 0; i < 2; i++) like.family(0, 0, 5, 6, 2 * i);
    changes("two like ones", like, 0, 16);
    EveryPew last = new EveryPew();
    last.church(0);
    for (int i = 0; i < 5; i++) last.family(0, 0, 5, 1, 2 * i);
    last.family(0, 1, 5, 12, 1);
    last.family(0, 1, 5, 7, 3);
    // 5 against 19; with the 7 12 against 12, though all pews of book 0 are taken.
    changes("the seventh", last, 6, 16);
    EveryPew most = new EveryPew();
    most.church(0);
    most.book(1, 1);
    // Book 1 kneels at word 0: the plain ones of it would be gone there, the deacon's not.
    most.family(0, 0, 5, 5, 0);
    most.family(3, 0, 5, 5, 2);
    changes("15 words by the first, 16 by the second", most, 1, 16);
    Bench.about(19, "7: nobody, if by none at more than as it is; at how many WORDS then.");
    changes("nobody there", new EveryPew(), 7, 16);
    changes("peace at all as it is", of(9, 9, 0), 7, 16);
    changes("one alone", of(0, 1, 0), 7, 0);
    EveryPew one = new EveryPew();
    one.family(0, 0, 5, 10, 0);
    one.book(1, 32768);
    changes("one word more than as it is", one, 0, 1);
    one.book(0, 1);
    changes("one word as it is, another by it", one, 7, 1);
    one.book(0, 3);
    changes("fewer words by it", one, 7, 2);
    Bench.about(19, "CHANGE: which (0), at how many WORDS (1).");
    int[][] due = {{7, 16}, {7, 2}, {7, 16}};
    for (int i = 0; i < 3; i++)
      for (int what = 0; what < 2; what++) {
        int which = what;
        Bench.asks(Bench.SCENES.get(i), "change(" + what + ")", x -> x.change(which), due[i][what]);
      }
    Bench.about(19, "BAD.");
    for (int what : Bench.outside(0, 1)) Bench.bad("change(" + what + ")", x -> x.change(what));
  }

  private static void still() {
    Bench.about(20, "STILL: the fewest FAMILIES (bits; of like ones the least) with a COLD besides those who have one, by which there is PEACE at all WORDS; none.");
    Bench.due("more by the limit: still()", of(9, 9, 0).still(), 0);
    Bench.due("by one more: still()", of(9, 10, 0).still(), 1);
    // At word 0 book 1 alone is heard, at word 1 book 0 alone: all must be still, so there is always such a set.
    EveryPew all = new EveryPew();
    all.church(0);
    all.book(0, 1);
    all.book(1, 2);
    for (int f = 0; f < 7; f++) all.family(0, f % 2, 5, 1 + f, f);
    Bench.due("all seven: still()", all.still(), 127);
    all.cold(3, 1);
    Bench.due("besides the one: still()", all.still(), 119);
    for (int f = 0; f < 7; f++) all.cold(f, 1);
    Bench.due("all have one: still()", all.still(), 0);
    EveryPew like = new EveryPew();
    like.church(0);
    like.family(0, 0, 5, 4, 0);
    like.family(0, 0, 5, 4, 2);
    like.family(0, 1, 5, 4, 1);
    Bench.due("two like ones: still()", like.still(), 1);
    like.cold(0, 1);
    Bench.due("8 less 4 against 4: still()", like.still(), 0);
    EveryPew few = new EveryPew();
    few.church(0);
    for (int v : new int[] {1, 2, 3}) few.family(0, 0, 5, v, 2 * v);
    few.family(0, 1, 5, 3, 1);
    // 6 against 3: 1 and 2 (bits 3) or the 3 alone (bit 4).
    Bench.due("fewest, though another set is less: still()", few.still(), 4);
    EveryPew late = new EveryPew();
    late.church(0);
    late.book(0, 32768);
    late.family(0, 0, 5, 5, 0);
    late.family(0, 1, 5, 5, 1);
    Bench.due("peace but for the last word: still()", late.still(), 3);
    // Were all to have one, neither book would be loud: NONE is never due.
    Bench.about(20, "STILL, as bits. NONE.");
    Bench.asks(Scene::fresh, "still()", EveryPew::still, 0);
    Bench.asks(Scene::midway, "still()", EveryPew::still, 1);
    Bench.asks(Scene::crowded, "still()", EveryPew::still, 0);
  }
}
