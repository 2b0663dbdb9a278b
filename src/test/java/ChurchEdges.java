import java.util.function.Supplier;

/** Promises 1 to 4: a new object, church, book, family. */
final class ChurchEdges {
  private ChurchEdges() {}

  static void all() {
    aNewObject();
    limits();
    churchBegins();
    churchIsRefused();
    wordsOfBooks();
    bookChangesNothingElse();
    bookIsRefused();
    familiesAsTheyCome();
    numbersOfFamilies();
    pewsOfBooks();
    takenPews();
    familyIsRefused();
  }

  private static void aNewObject() {
    Bench.about(1, "As told; no FAMILIES.");
    Scene.fresh().check(new EveryPew(), "new EveryPew()");
    EveryPew x = new EveryPew();
    Bench.due("up(0)", x.up(0), 0);
    Bench.due("seers(15)", x.seers(15), 0);
    Bench.due("loud(0, 0)", x.loud(0, 0), 0);
    Bench.due("loud(15, 1)", x.loud(15, 1), 0);
    Bench.due("of(0, 0)", x.of(0, 0), Bench.BAD);
    Bench.due("another object", new EveryPew().count(0), 0);
  }

  private static void limits() {
    Bench.about(2, "LIMIT (0 .. 30; 9 at first).");
    EveryPew x = new EveryPew();
    Bench.due("count(1) at first", x.count(1), 9);
    for (int limit = 0; limit <= 30; limit++) {
      Bench.due("church(" + limit + ")", x.church(limit), 0);
      Bench.due("count(1)", x.count(1), limit);
    }
  }

  private static void churchBegins() {
    Bench.about(2, "LIMIT, all else as at first (but for IMAGES, THE TEXT, THE FRACTION, STATUS): how many FAMILIES there were.");
    for (Supplier<Scene> of : Bench.SCENES)
      for (int limit : new int[] {0, 9, 30}) {
        Scene scene = of.get();
        EveryPew x = scene.make();
        Bench.due(scene.name + ": church(" + limit + ")", x.church(limit), scene.families());
        scene.church = Told.begun(limit);
        scene.check(x, "church(" + limit + ")");
      }
    EveryPew x = new EveryPew();
    x.family(0, 0, 9, 20, 8);
    Bench.due("church(9) with one", x.church(9), 1);
    Bench.due("church(9) again", x.church(9), 0);
  }

  private static void churchIsRefused() {
    Bench.about(2, "BAD.");
    for (int limit : Bench.outside(0, 30)) Bench.bad("church(" + limit + ")", x -> x.church(limit));
  }

  private static void wordsOfBooks() {
    Bench.about(3, "BOOKS 0, 1: the WORDS at which one KNEELS (bits 0 .. 65535; none at first).");
    for (int b = 0; b < 2; b++) {
      EveryPew x = new EveryPew();
      x.family(0, b, 9, 9, b);
      for (int w = 0; w < 16; w++) Bench.due("at first, at(0, " + w + ", 0)", x.at(0, w, 0), 0);
      for (int word = 0; word < 16; word++) {
        x.book(b, 1 << word);
        for (int w = 0; w < 16; w++) Bench.due("bit " + word + " alone, at(0, " + w + ", 0)", x.at(0, w, 0), w == word ? 1 : 0);
      }
      x.book(b, 65535);
      for (int w = 0; w < 16; w++) Bench.due("65535, at(0, " + w + ", 0)", x.at(0, w, 0), 1);
      x.book(b, 0);
      x.book(1 - b, 65535);
      for (int w = 0; w < 16; w++) Bench.due("the other book, at(0, " + w + ", 0)", x.at(0, w, 0), 0);
    }
    Bench.about(3, "WORDS of a BOOK (bits): what they were.");
    EveryPew x = new EveryPew();
    Bench.due("book(0, 65535)", x.book(0, 65535), 0);
    Bench.due("book(1, 1)", x.book(1, 1), 0);
    Bench.due("book(0, 65535) again", x.book(0, 65535), 65535);
    Bench.due("book(0, 0)", x.book(0, 0), 65535);
    Bench.due("book(0, 32768)", x.book(0, 32768), 0);
    Bench.due("book(1, 0)", x.book(1, 0), 1);
    Bench.due("book(0, 0)", x.book(0, 0), 32768);
    for (Supplier<Scene> of : Bench.SCENES)
      for (int b = 0; b < 2; b++) {
        int book = b;
        int same = of.get().church.books[b];
        Bench.asks(of, "book(" + b + ", as it was)", y -> y.book(book, same), same);
      }
  }

  private static void bookIs(Supplier<Scene> of, int b, int words, int were, int peace) {
    Scene scene = of.get();
    EveryPew x = scene.make();
    Bench.due(scene.name + ": book(" + b + ", " + words + ")", x.book(b, words), were);
    scene.church.books[b] = words;
    scene.church.peace = peace;
    scene.check(x, "book(" + b + ", " + words + ")");
  }

  private static void bookChangesNothingElse() {
    Bench.about(3, "WORDS of a BOOK (bits): what they were.");
    bookIs(Scene::fresh, 0, 65535, 0, 16);
    bookIs(Scene::fresh, 1, 32768, 0, 16);
    // 7 against 2 or, at word 1, none.
    bookIs(Scene::midway, 0, 0, 32769, 0);
    // Words 0, 15: none against none; all others 7 against none.
    bookIs(Scene::midway, 1, 65535, 2, 2);
    // The waverers are up, the children too: 24 against 22.
    bookIs(Scene::crowded, 1, 0, 65535, 16);
  }

  private static void bookIsRefused() {
    Bench.about(3, "BAD.");
    for (int b : Bench.outside(0, 1)) {
      Bench.bad("book(" + b + ", 0)", x -> x.book(b, 0));
      Bench.bad("book(" + b + ", 65535)", x -> x.book(b, 65535));
    }
    for (int words : Bench.outside(0, 65535))
      for (int b = 0; b < 2; b++) {
        int book = b;
        Bench.bad("book(" + b + ", " + words + ")", x -> x.book(book, words));
      }
  }

  private static void familiesAsTheyCome() {
    Bench.about(4, "FAMILIES 0 .. 6, as they come:");
    EveryPew x = new EveryPew();
    int[] pews = {8, 9, 6, 1, 0, 5, 2};
    for (int f = 0; f < 7; f++) {
      Bench.due("count(0)", x.count(0), f);
      Bench.due("of(" + f + ", 0) ahead of it", x.of(f, 0), Bench.BAD);
      Bench.due("family " + f, x.family(0, f % 2, 1 + f, 2 + f, pews[f]), f);
      Bench.due("of(" + f + ", 2)", x.of(f, 2), 1 + f);
      Bench.due("of(" + f + ", 3)", x.of(f, 3), 2 + f);
    }
    Bench.due("count(0)", x.count(0), 7);
    Bench.due("of(7, 0)", x.of(7, 0), Bench.BAD);
    Bench.about(4, "A FAMILY: the number.");
    x.church(9);
    Bench.due("the first behind church", x.family(0, 0, 1, 1, 0), 0);
    Bench.due("a refused one behind it", x.family(0, 0, 1, 1, 0), Bench.NO);
    Bench.due("the second", x.family(0, 0, 1, 1, 2), 1);
    Scene scene = Scene.midway();
    EveryPew y = scene.make();
    Bench.due("midway: family(4, 1, 9, 1, 1)", y.family(4, 1, 9, 1, 1), 3);
    scene.church.families = new int[][] {{0, 0, 5, 7, 8, 0}, {1, 1, 6, 5, 3, 0}, {5, 1, 9, 20, 9, 1}, {4, 1, 9, 1, 1, 0}};
    scene.church.steps = new int[][] {};
    scene.check(y, "family(4, 1, 9, 1, 1)");
  }

  private static void isAsTold(int kind, int b, int tall, int voices, int pew) {
    EveryPew x = new EveryPew();
    int[] told = {kind, b, tall, voices, pew, 0};
    Bench.due("family(" + kind + ", " + b + ", " + tall + ", " + voices + ", " + pew + ")", x.family(kind, b, tall, voices, pew), 0);
    for (int i = 0; i < 6; i++) Bench.due("of(0, " + i + ")", x.of(0, i), told[i]);
  }

  private static void numbersOfFamilies() {
    Bench.about(4, "a KIND, a BOOK, TALL (1 .. 9), VOICES (1 .. 20),");
    for (int kind = 0; kind <= 5; kind++) isAsTold(kind, 0, 5, 5, 4);
    for (int b = 0; b < 2; b++) isAsTold(0, b, 5, 5, b);
    for (int tall = 1; tall <= 9; tall++) isAsTold(0, 1, tall, 5, 5);
    for (int voices = 1; voices <= 20; voices++) isAsTold(0, 1, 5, voices, 5);
    isAsTold(0, 0, 1, 1, 0);
    isAsTold(5, 1, 9, 20, 9);
  }

  private static void pewsOfBooks() {
    Bench.about(4, "even ones are BOOK 0's, odd ones BOOK 1's.");
    for (int pew = 0; pew < 10; pew++) {
      isAsTold(0, pew % 2, 5, 5, pew);
      int itsPew = pew;
      int other = 1 - pew % 2;
      Bench.refused(Scene::fresh, "family(0, " + other + ", 5, 5, " + pew + ")", x -> x.family(0, other, 5, 5, itsPew), Bench.BAD);
    }
    Bench.about(4, "PEWS 0 .. 9, 0 in front;");
    EveryPew x = new EveryPew();
    for (int pew = 0; pew < 5; pew++) x.family(0, pew % 2, 5, 5, pew);
    Bench.due("seers(0), all alike: the one in pew 0", x.seers(0), 1);
    EveryPew y = new EveryPew();
    y.family(0, 1, 5, 5, 9);
    y.family(0, 0, 5, 5, 8);
    Bench.due("seers(0), all alike: pew 9 is behind pew 8", y.seers(0), 2);
    for (int b = 0; b < 2; b++) {
      int book = b;
      Bench.refused(Scene::fresh, "family(0, " + b + ", 5, 5, " + (10 + b) + ")", z -> z.family(0, book, 5, 5, 10 + book), Bench.BAD);
      Bench.refused(Scene::fresh, "family(0, " + b + ", 5, 5, " + (b - 2) + ")", z -> z.family(0, book, 5, 5, book - 2), Bench.BAD);
    }
  }

  private static void takenPews() {
    Bench.about(4, "a PEW of their BOOK in which nobody is;");
    EveryPew x = new EveryPew();
    x.family(0, 0, 5, 5, 4);
    Bench.due("family in its pew", x.family(0, 0, 6, 6, 4), Bench.NO);
    x.move(0, 8);
    Bench.due("family where it sat", x.family(0, 0, 6, 6, 4), 1);
    Bench.due("family where it sits", x.family(0, 0, 6, 6, 8), Bench.NO);
    EveryPew full = new EveryPew();
    for (int i = 0; i < 5; i++) Bench.due("the five pews of book 1", full.family(0, 1, 5, 5, 2 * i + 1), i);
    for (int i = 0; i < 5; i++) Bench.due("a sixth of book 1", full.family(0, 1, 5, 5, 2 * i + 1), Bench.NO);
    for (int i = 0; i < 2; i++) Bench.due("two of book 0", full.family(0, 0, 5, 5, 8 * i), 5 + i);
    Bench.due("status(1)", full.status(1), 5);
  }

  private static void familyIsRefused() {
    Bench.about(4, "BAD: a PEW of the other BOOK, too;");
    for (int kind : Bench.outside(0, 5)) Bench.bad("family(" + kind + ", 0, 5, 5, 2)", x -> x.family(kind, 0, 5, 5, 2));
    for (int b : Bench.outside(0, 1)) {
      Bench.bad("family(0, " + b + ", 5, 5, 2)", x -> x.family(0, b, 5, 5, 2));
      Bench.bad("family(0, " + b + ", 5, 5, 7)", x -> x.family(0, b, 5, 5, 7));
    }
    for (int tall : Bench.outside(1, 9)) Bench.bad("family(0, 0, " + tall + ", 5, 2)", x -> x.family(0, 0, tall, 5, 2));
    for (int voices : Bench.outside(1, 20)) Bench.bad("family(0, 0, 5, " + voices + ", 2)", x -> x.family(0, 0, 5, voices, 2));
    for (int b = 0; b < 2; b++) {
      int book = b;
      for (int pew : new int[] {-2, -1, 10, 11, 12, Integer.MIN_VALUE, Integer.MIN_VALUE + 1, Integer.MAX_VALUE - 1, Integer.MAX_VALUE})
        Bench.bad("family(0, " + b + ", 5, 5, " + pew + ")", x -> x.family(0, book, 5, 5, pew));
      for (int i = 0; i < 5; i++) {
        int pew = 2 * i + 1 - b;
        Bench.bad("family(0, " + b + ", 5, 5, " + pew + ")", x -> x.family(0, book, 5, 5, pew));
      }
    }
    Bench.about(4, "NO: somebody is in the PEW;");
    Bench.refused(Scene::midway, "family(0, 0, 5, 5, 8)", x -> x.family(0, 0, 5, 5, 8), Bench.NO);
    Bench.refused(Scene::midway, "family(0, 1, 5, 5, 3)", x -> x.family(0, 1, 5, 5, 3), Bench.NO);
    Bench.refused(Scene::midway, "family(0, 1, 5, 5, 9)", x -> x.family(0, 1, 5, 5, 9), Bench.NO);
    Bench.refused(Scene::midway, "a taken pew of the other book", x -> x.family(0, 0, 5, 5, 9), Bench.BAD);
    Bench.refused(Scene::midway, "a taken pew and no kind", x -> x.family(6, 1, 5, 5, 9), Bench.BAD);
    for (int pew : new int[] {0, 4, 6, 8}) Bench.refused(Scene::crowded, "an eighth in pew " + pew, x -> x.family(0, 0, 5, 5, pew), Bench.NO);
    for (int pew : new int[] {1, 3, 9}) Bench.refused(Scene::crowded, "an eighth in pew " + pew, x -> x.family(0, 1, 5, 5, pew), Bench.NO);
    Bench.about(4, "FULL: 7.");
    Bench.refused(Scene::crowded, "an eighth in pew 2", x -> x.family(0, 0, 5, 5, 2), Bench.FULL);
    for (int pew : new int[] {5, 7}) Bench.refused(Scene::crowded, "an eighth in pew " + pew, x -> x.family(5, 1, 9, 20, pew), Bench.FULL);
    Bench.refused(Scene::crowded, "an eighth of no voices", x -> x.family(5, 1, 9, 0, 7), Bench.BAD);
  }
}
