import java.util.function.Supplier;

/** Promises 5 to 7: type, clear, read. */
final class TextEdges {
  private static final String SEVEN = "church 5;family 0 0 1 1 0;family 0 1 1 1 1;family 0 0 1 1 2;family 0 1 1 1 3;"
      + "family 0 0 1 1 4;family 0 1 1 1 5;family 0 0 1 1 6;";

  private TextEdges() {}

  static void all() {
    typeTakes();
    typeIsRefused();
    clearEmpties();
    longestText();
    churchFirst();
    booksOfText();
    familiesOfText();
    coldsOfText();
    tokens();
    wordsThatAreNone();
    whatCanNotStand();
    numbersNotAsTold();
    endsTooEarly();
    faultLeavesAll();
    readTakesThePlace();
    readBehindAFault();
    goesOnFromARead();
  }

  private static EveryPew typed(String text) {
    EveryPew x = new EveryPew();
    Bench.type(x, text);
    return x;
  }

  private static void reads(String text, long answer) {
    Bench.due("read() of '" + text + "'", typed(text).read(), answer);
  }

  /** The place of the fault is written out. */
  private static void faults(String text, int place) {
    reads(text, -10 - place);
  }

  private static void typeTakes() {
    Bench.about(5, "A byte (0 .. 127) comes behind THE TEXT: how many it has.");
    EveryPew x = new EveryPew();
    for (int c = 0; c <= 127; c++) Bench.due("type(" + c + ")", x.type(c), c + 1);
    Bench.due("count(6)", x.count(6), 128);
    for (int n = 129; n <= 150; n++) Bench.due("type(59)", x.type(59), n);
    Bench.due("count(6), 150 at most", x.count(6), 150);
    Bench.due("type(59), a 151st", x.type(59), Bench.FULL);
    EveryPew y = typed("church 1");
    Bench.due("type(50) comes behind", y.type('2'), 9);
    Bench.due("type(59) comes behind", y.type(';'), 10);
    Bench.due("read()", y.read(), 1);
    Bench.due("count(1)", y.count(1), 12);
    Scene fresh = Scene.fresh();
    EveryPew first = fresh.make();
    Bench.due("fresh: type('c')", first.type('c'), 1);
    fresh.text = "c";
    fresh.rest = "hurch 1;";
    fresh.check(first, "type('c')");
    Scene midway = Scene.midway();
    EveryPew next = midway.make();
    Bench.due("midway: type(';')", next.type(';'), 18);
    midway.retyped("church 7;book 1 3;", 2, 7);
    midway.check(next, "type(';')");
  }

  private static void typeIsRefused() {
    Bench.about(5, "BAD; FULL.");
    for (int c : Bench.outside(0, 127)) Bench.bad("type(" + c + ")", x -> x.type(c));
    for (int c : new int[] {0, 32, 59, 127}) Bench.refused(Scene::crowded, "type(" + c + "), a 151st", x -> x.type(c), Bench.FULL);
  }

  private static void clearEmpties() {
    Bench.about(6, "THE TEXT is empty: how many it had.");
    for (Supplier<Scene> of : Bench.SCENES) {
      Scene scene = of.get();
      EveryPew x = scene.make();
      Bench.due(scene.name + ": clear()", x.clear(), scene.text.length());
      scene.text = "";
      scene.rest = "church 2;book 1;";
      scene.items = 2;
      scene.textLimit = 2;
      scene.check(x, "clear()");
    }
    EveryPew x = typed("c");
    Bench.due("clear() of one", x.clear(), 1);
    Bench.due("clear() of none", x.clear(), 0);
    Bench.due("read() of none", x.read(), -10);
    for (int n = 1; n <= 150; n++) x.type(32);
    Bench.due("clear() of 150", x.clear(), 150);
    Bench.due("type(32) behind it", x.type(32), 1);
  }

  private static void longestText() {
    Bench.about(7, "THE CHURCH is told by a TEXT (150 bytes at most) of ITEMS, each ended by ; :");
    reads(" ".repeat(141) + "church 5;", 1);
    reads(" ".repeat(142) + "church 5;", -160);
    reads("church 5;" + " ".repeat(141), 1);
    reads("church 5 book 0;", -10 - 9);
    reads("church 5;book 0 cold 0;", -10 - 16);
    Bench.about(7, "THE CHURCH is read: how many ITEMS.");
    reads("church 5;", 1);
    reads("church 5;book 0;", 2);
    // 9 bytes and 20 times 7: one byte is left.
    reads("church 5;" + "book 1;".repeat(20), 21);
    reads("church 5;" + "book 1;".repeat(20) + " ", 21);
    reads("church 5;" + "book 1;".repeat(20) + "b", -10 - 149);
    reads(SEVEN, 8);
    reads(SEVEN + "cold 0;cold 6;" + "book 0;", 11);
  }

  private static void churchFirst() {
    Bench.about(7, "church LIMIT (once, first of all);");
    for (int limit = 0; limit <= 30; limit++) {
      EveryPew x = typed("church " + limit + ";");
      Bench.due("read() of limit " + limit, x.read(), 1);
      Bench.due("count(1)", x.count(1), limit);
    }
    reads("church 00;", 1);
    faults("church 31;", 7);
    faults("church 99;", 7);
    faults("church 030;", 7);
    Bench.about(7, "church again,");
    faults("church 5;church 5;", 9);
    faults("church 5;book 0;church", 16);
    faults("church church 5;", 7);
    faults("church 5 church 5;", 9);
    faults("church 5;book 1 church 5;", 16);
    Bench.about(7, "anything ahead of it,");
    faults("book 0;church 5;", 0);
    faults("cold 0;church 5;", 0);
    faults("family 0 0 1 1 0;church 5;", 0);
    faults(";church 5;", 0);
    faults(" ;church 5;", 1);
    faults("5 church 5;", 0);
    faults("  0", 2);
    faults("-church 5;", 0);
  }

  private static void bookIs(String words, long bits) {
    EveryPew x = typed("church 5;" + words);
    Bench.due("read() of '" + words + "'", x.read(), 1 + words.length() - words.replace(";", "").length());
    Bench.due("book(0, 0) behind '" + words + "'", x.book(0, 0), bits % 65536);
    Bench.due("book(1, 0) behind '" + words + "'", x.book(1, 0), bits / 65536);
  }

  private static void booksOfText() {
    Bench.about(7, "book b and the WORDS at which one KNEELS (0 .. 15, any; those alone);");
    bookIs("book 0;", 0);
    for (int w = 0; w < 16; w++) bookIs("book 0 " + w + ";", 1 << w);
    bookIs("book 0 0 1 2 3 4 5 6 7 8 9 10 11 12 13 14 15;", 65535);
    bookIs("book 0 15 14 13 12 11 10 9 8 7 6 5 4 3 2 1 0;", 65535);
    bookIs("book 1 0 15;", 32769L * 65536);
    bookIs("book 0 4 4;", 16);
    bookIs("book 0 1;book 0 2;", 4);
    bookIs("book 0 1 2;book 0;", 0);
    bookIs("book 0 0;book 1 1;book 0 3;", 8 + 2 * 65536);
    faults("church 5;book 0 16;", 16);
    faults("church 5;book 0 15 16;", 19);
    faults("church 5;book 0 0 99;", 18);
    faults("church 5;book 2;", 14);
    faults("church 5;book 2 1;", 14);
    faults("church 5;book;", 13);
    EveryPew x = typed("church 5;");
    x.book(0, 7);
    x.book(1, 7);
    x.read();
    Bench.due("book(0, 0), a text without books", x.book(0, 0), 0);
    Bench.due("book(1, 0), a text without books", x.book(1, 0), 0);
  }

  private static void familyIs(int kind, int b, int tall, int voices, int pew) {
    String item = "family " + kind + " " + b + " " + tall + " " + voices + " " + pew + ";";
    EveryPew x = typed("church 5;" + item);
    Bench.due("read() of '" + item + "'", x.read(), 2);
    int[] told = {kind, b, tall, voices, pew, 0};
    for (int i = 0; i < 6; i++) Bench.due("of(0, " + i + ") behind '" + item + "'", x.of(0, i), told[i]);
  }

  private static void familiesOfText() {
    Bench.about(7, "family KIND b TALL VOICES PEW;");
    for (int kind = 0; kind <= 5; kind++) familyIs(kind, 0, 5, 5, 4);
    for (int tall = 1; tall <= 9; tall++) familyIs(0, 1, tall, 5, 5);
    for (int voices = 1; voices <= 20; voices++) familyIs(0, 1, 5, voices, 5);
    for (int pew = 0; pew <= 9; pew++) familyIs(0, pew % 2, 5, 5, pew);
    // KIND at 16, b at 18, TALL at 20, VOICES at 22, PEW at 24; ; at 25.
    faults("church 5;family 6 0 5 5 4;", 16);
    faults("church 5;family 0 2 5 5 4;", 18);
    faults("church 5;family 0 0 0 5 4;", 20);
    faults("church 5;family 0 0 10 5 4;", 20);
    faults("church 5;family 0 0 5 0 4;", 22);
    faults("church 5;family 0 0 5 21 4;", 22);
    faults("church 5;family 0 0 5 5 10;", 24);
    faults("church 5;family 0 1 5 5 10;", 24);
    faults("church 5;family 0 1 5 5 11;", 24);
    faults("church 5;family;", 15);
    faults("church 5;family 0;", 17);
    faults("church 5;family 0 0;", 19);
    faults("church 5;family 0 0 5;", 21);
    faults("church 5;family 0 0 5 5;", 23);
    faults("church 5;family 0 0 5 5 4 4;", 26);
    faults("church 5;family 0 0 5 5 4 cold 0;", 26);
    Bench.about(7, "an 8th family at its word,");
    EveryPew x = typed(SEVEN);
    Bench.due("read() of seven", x.read(), 8);
    Bench.due("count(0)", x.count(0), 7);
    Bench.due("of(6, 4)", x.of(6, 4), 6);
    faults(SEVEN + "family 0 1 1 1 7;", 128);
    faults(SEVEN + "family 0 0 1 1 0;", 128);
    faults(SEVEN + "family;", 128);
    faults(SEVEN + "family", 128);
    faults(SEVEN + "  family 9", 130);
    Bench.about(7, "also a PEW of the other BOOK,");
    for (int pew = 0; pew <= 9; pew++) faults("church 5;family 0 " + (1 - pew % 2) + " 5 5 " + pew + ";", 24);
    Bench.about(7, "one in which somebody is,");
    faults("church 5;family 0 0 5 5 4;family 0 0 5 5 4;", 41);
    faults("church 5;family 0 1 5 5 9;family 0 0 5 5 8;family 0 1 5 5 9;", 58);
    reads("church 5;family 0 1 5 5 9;family 0 0 5 5 8;family 0 1 5 5 7;", 4);
    EveryPew y = typed("church 5;family 0 0 5 5 4;");
    y.family(0, 0, 1, 1, 4);
    Bench.due("read(): who sat there ahead of it is gone", y.read(), 2);
  }

  private static void coldsOfText() {
    Bench.about(7, "cold f.");
    for (int f = 0; f < 7; f++) {
      EveryPew x = typed(SEVEN + "cold " + f + ";");
      Bench.due("read() of cold " + f, x.read(), 9);
      for (int g = 0; g < 7; g++) Bench.due("of(" + g + ", 5), cold " + f, x.of(g, 5), f == g ? 1 : 0);
    }
    EveryPew twice = typed("church 5;family 0 0 5 5 4;cold 0;cold 0;");
    Bench.due("read(), cold twice", twice.read(), 4);
    Bench.due("count(2), cold twice", twice.count(2), 1);
    severalColds();
    Bench.about(7, "a FAMILY that is not there yet,");
    faults("church 5;cold 0;", 14);
    faults("church 5;cold 0;family 0 0 5 5 4;", 14);
    faults("church 5;family 0 0 5 5 4;cold 1;", 31);
    faults("church 5;family 0 0 5 5 4;cold 1;family 0 0 5 5 6;", 31);
    reads("church 5;family 0 0 5 5 4;family 0 0 5 5 6;cold 1;", 4);
    faults(SEVEN + "cold 7;", 133);
    faults(SEVEN + "cold;", 132);
    faults(SEVEN + "cold 0 1;", 135);
    EveryPew x = typed("church 5;family 0 0 5 5 4;cold 1;");
    for (int i = 0; i < 5; i++) x.family(0, 0, 5, 5, 2 * i);
    Bench.due("read(): families ahead of it are not the text's", x.read(), -10 - 31);
  }

  private static void coldsAre(String text, int items, int colds, int families) {
    EveryPew x = typed(text);
    Bench.due("read() of '" + text + "'", x.read(), items);
    Bench.due("count(2) behind '" + text + "'", x.count(2), Integer.bitCount(colds));
    for (int f = 0; f < families; f++) Bench.due("of(" + f + ", 5) behind '" + text + "'", x.of(f, 5), colds >> f & 1);
  }

  /** One cold does not end another: all of five families, and as many of seven as there is room for (149 bytes). */
  private static void severalColds() {
    coldsAre("church 5;family 0 0 1 1 0;family 0 0 1 1 2;cold 0;cold 1;", 5, 3, 2);
    coldsAre("church 5;family 0 0 1 1 0;cold 0;family 0 0 1 1 2;cold 1;", 5, 3, 2);
    coldsAre("church 5;family 0 0 1 1 0;cold 0;family 0 0 1 1 2;", 4, 1, 2);
    coldsAre("church 5;" + SEVEN.substring(9, 9 + 5 * 17) + "cold 4;cold 0;cold 3;cold 1;cold 2;", 11, 31, 5);
    coldsAre(SEVEN + "cold 6;cold 0;cold 3;", 11, 64 + 1 + 8, 7);
  }

  private static void tokens() {
    Bench.about(7, "TOKENS: words of letters a .. z, figures (1 or 2 are one number), ; ; blanks (32) between.");
    EveryPew x = typed("church 12;book 0 12;book 1 1 2;");
    Bench.due("read()", x.read(), 3);
    Bench.due("count(1): 12 is one number", x.count(1), 12);
    Bench.due("book(0, 0): 12 is one number", x.book(0, 0), 4096);
    Bench.due("book(1, 0): 1 2 are two", x.book(1, 0), 6);
    reads("  church   5  ;  book  0  09  ;  ", 2);
    // A letter at the word's end makes another word of it; a byte beside a and z does not.
    faults("church 5;booka 0;", 9);
    faults("church 5;bookz 0;", 9);
    faults("church 5;book` 0;", 13);
    faults("church 5;book{ 0;", 13);
    faults("church 5;bookA 0;", 13);
    faults("church 5;bookZ 0;", 13);
    // So with figures.
    reads("church 5;book 0 10;", 2);
    reads("church 19;", 1);
    faults("church 1/;", 8);
    faults("church 1:;", 8);
    // And with blanks and ;.
    for (int c : new int[] {0, 9, 10, 13, 31, 33, 127}) {
      faults("church" + (char) c + "5;", 6);
      faults("church 5;" + (char) c, 9);
    }
    faults("church 5<", 8);
    faults("church 5:", 8);
    // Tokens of unlike sorts stand apart by themselves, as a number and ; do.
    reads("church5;book0 1;", 2);
    Bench.about(7, "a third figure's number,");
    faults("church 005;", 7);
    faults("church 100;", 7);
    faults("church 5;book 000;", 14);
    faults("church 5;book 0 001;", 16);
    faults("church 5;book 0 1 012;", 18);
    faults("church 5;family 000 0 5 5 4;", 16);
    faults("church 5;family 0 000 5 5 4;", 18);
    faults("church 5;family 0 0 005 5 4;", 20);
    faults("church 5;family 0 0 5 005 4;", 22);
    faults("church 5;family 0 0 5 5 004;", 24);
    faults("church 5;family 0 0 5 5 4;cold 000;", 31);
    faults("church " + "0".repeat(143), 7);
    faults("church 4294967301;", 7);
    faults("church 18446744073709551621;", 7);
    reads("church 05;book 00 01;family 00 00 05 05 04;cold 00;", 4);
  }

  private static void wordsThatAreNone() {
    Bench.about(7, "FAULT: the place of the first byte of the first TOKEN that can not stand there (a word that is none,");
    faults("chorch 5;", 0);
    faults("churche 5;", 0);
    faults("churc 5;", 0);
    faults("c", 0);
    faults("  a  ", 2);
    faults("church 5;pew 0;", 9);
    faults("church 5;families 0 0 5 5 4;", 9);
    faults("church 5;famil 0 0 5 5 4;", 9);
    faults("church 5;colds 0;", 9);
    faults("church 5;col 0;", 9);
    faults("church 5;   books 0;", 12);
    faults("church 5;z", 9);
    faults("z".repeat(150), 0);
    for (int i = 0; i < 6; i++) faults("church".substring(0, i) + "x" + "church".substring(i + 1) + " 5;", 0);
    for (String word : new String[] {"book", "family", "cold"})
      for (int i = 0; i < word.length(); i++) faults("church 5;" + word.substring(0, i) + "x" + word.substring(i + 1) + " 0;", 9);
    // The first of several.
    faults("church 31;pew;", 7);
    faults("church 5;pew 99;-", 9);
    faults("church 5;book 2 99;pew", 14);
    Bench.about(7, "a byte that begins none, too);");
    for (int c = 0; c < 128; c++) {
      boolean begins = c >= 'a' && c <= 'z' || c >= '0' && c <= '9' || c == ';' || c == ' ';
      if (!begins) {
        faults((char) c + "", 0);
        faults("church 5;" + (char) c + ";", 9);
        faults("church 5" + (char) c + ";", 8);
      }
    }
    faults("church -1;", 7);
    faults("church 5;book 0 -1;", 16);
    faults("Church 5;", 0);
  }

  private static void whatCanNotStand() {
    Bench.about(7, "-10 less the FAULT: all stays.");
    faults("church 5;;", 9);
    faults("church 5; ;", 10);
    faults("church 5;7;", 9);
    faults("church ;", 7);
    faults("church;", 6);
    faults("church book 0;", 7);
    faults("church 5 6;", 9);
    faults("church 5;book cold;", 14);
    faults("church 5;book 0 book 1;", 16);
    faults("church 5;cold cold;", 14);
    faults("church 5;family family;", 16);
    faults("church 5;family 0 0 5 5 book", 24);
    faults(" ".repeat(149) + ";", 149);
    reads(" ".repeat(149) + "-", -10 - 149);
  }

  private static void numbersNotAsTold() {
    Bench.about(7, "a number not as told,");
    faults("church 31;", 7);
    reads("church 30;", 1);
    faults("church 5;book 2;", 14);
    reads("church 5;book 1;", 2);
    faults("church 5;book 1 16;", 16);
    reads("church 5;book 1 15;", 2);
    faults("church 5;family 6 1 9 20 9;", 16);
    faults("church 5;family 5 2 9 20 9;", 18);
    faults("church 5;family 5 1 10 20 9;", 20);
    faults("church 5;family 5 1 0 20 9;", 20);
    faults("church 5;family 5 1 9 21 9;", 22);
    faults("church 5;family 5 1 9 0 9;", 22);
    faults("church 5;family 5 1 9 20 10;", 25);
    faults("church 5;family 5 1 9 20 11;", 25);
    faults("church 5;family 5 1 9 20 99;", 25);
    reads("church 5;family 5 1 9 20 9;", 2);
    reads("church 5;family 0 0 1 1 0;", 2);
  }

  private static void endsTooEarly() {
    Bench.about(7, "the TEXT's length, if it ends too early (an empty one, too).");
    reads("", -10);
    reads(" ", -11);
    reads(" ".repeat(150), -160);
    String text = "church 12;family 5 1 9 20 9;cold 0;book 1 15;";
    // For each length the fault, or how many items; a word that is cut is a word that is none.
    int[] due = new int[46];
    for (int n = 0; n <= 45; n++) due[n] = -10 - n;
    for (int n = 1; n <= 5; n++) due[n] = -10;
    for (int n = 11; n <= 15; n++) due[n] = -20;
    for (int n = 29; n <= 31; n++) due[n] = -38;
    for (int n = 36; n <= 38; n++) due[n] = -45;
    due[10] = 1;
    due[28] = 2;
    due[35] = 3;
    due[45] = 4;
    for (int n = 0; n <= 45; n++) {
      reads(text.substring(0, n), due[n]);
      boolean between = due[n] == -10 - n;
      if (between) reads(text.substring(0, n) + "   ", -13 - n);
      if (due[n] > 0) reads(text.substring(0, n) + "   ", due[n]);
    }
    reads(SEVEN + "cold", -10 - 132);
    reads("church" + " ".repeat(144), -160);
    reads(" ".repeat(144) + "church", -160);
  }

  private static void faultLeavesAll() {
    Bench.about(7, "-10 less the FAULT: all stays.");
    String[] texts = {"", "church", "church 3;family 0 0 1 1 0;cold 0;book 0 1;church", "church 31;", "church 0;cold 0;", SEVEN + "family", "church 1;book 1 1 2 3;-"};
    int[] faults = {0, 6, 42, 7, 14, 128, 22};
    for (Supplier<Scene> of : Bench.SCENES)
      for (int i = 0; i < texts.length; i++) {
        Scene scene = of.get();
        EveryPew x = scene.make();
        // A long text more would bring the crowded one beyond its 512 calls.
        if (scene.name.equals("crowded") && texts[i].length() > 60) continue;
        x.clear();
        Bench.type(x, texts[i]);
        Bench.due(scene.name + ": read() of '" + texts[i] + "'", x.read(), -10 - faults[i]);
        scene.retyped(texts[i], -10 - faults[i], scene.images[1] == null ? scene.church.limit : scene.images[1].limit);
        scene.check(x, "read() with a fault");
      }
    for (Supplier<Scene> of : Bench.SCENES) {
      Scene scene = of.get();
      if (scene.name.equals("crowded")) continue;
      EveryPew x = scene.make();
      Bench.due(scene.name + ": read()", x.read(), -10 - scene.text.length());
      scene.check(x, "read() of a text that ends too early");
    }
  }

  private static void readTakesThePlace() {
    Bench.about(7, "A CHURCH that is read takes the place of all but IMAGES, THE TEXT, THE FRACTION, STATUS (HEARD none; nothing to undo).");
    String text = "church 2;book 1 0 15;family 4 1 9 20 9;family 3 0 1 3 0;cold 1;";
    for (Supplier<Scene> of : Bench.SCENES)
      for (int church = 0; church < 2; church++) {
        Scene scene = of.get();
        EveryPew x = scene.make();
        x.clear();
        Bench.type(x, church == 0 ? "church 0;" : text);
        Bench.due(scene.name + ": read()", x.read(), church == 0 ? 1 : 5);
        scene.church = Told.begun(church == 0 ? 0 : 2);
        if (church == 1) {
          scene.church.books[1] = 32769;
          scene.church.families = new int[][] {{4, 1, 9, 20, 9, 0}, {3, 0, 1, 3, 0, 1}};
          // 10 voices against none at the 14 words at which book 1 does not kneel.
          scene.church.peace = 2;
        }
        scene.retyped(church == 0 ? "church 0;" : text, church == 0 ? 1 : 5, church == 0 ? 0 : 2);
        scene.check(x, "read()");
      }
  }

  private static void readBehindAFault() {
    Bench.about(7, "-10 less the FAULT: all stays.");
    EveryPew x = typed("church 3;book 0 1;book 1 2;family 0 0 9 9 0;cold 0;-");
    Bench.due("read() with a fault at its end", x.read(), -10 - 51);
    x.clear();
    Bench.type(x, "church 4;");
    Bench.due("read() of a church alone", x.read(), 1);
    Bench.due("digest(): nothing of the one with the fault", x.digest(), Told.begun(4).digest(9, 0, 1));
    EveryPew y = typed("church 3;book 0 1;family 0 0 9 9 0;cold 0;");
    Bench.due("read()", y.read(), 4);
    y.type('-');
    Bench.due("read() with one byte more", y.read(), -10 - 42);
    Told told = Told.begun(3);
    told.books[0] = 2;
    told.families = new int[][] {{0, 0, 9, 9, 0, 1}};
    Bench.due("digest(): but for the byte as it was read", y.digest(), told.digest(43, 0, 1));
  }

  private static void goesOnFromARead() {
    Bench.about(7, "THE CHURCH is read: how many ITEMS.");
    EveryPew x = typed(SEVEN + "cold 6;");
    Bench.due("read() of seven", x.read(), 9);
    Bench.due("read() again: the same once more", x.read(), 9);
    Bench.due("count(0)", x.count(0), 7);
    Bench.due("family in pew 7, an eighth", x.family(0, 1, 1, 1, 7), Bench.FULL);
    Bench.due("family in pew 6, taken", x.family(0, 0, 1, 1, 6), Bench.NO);
    Bench.due("move(6, 8)", x.move(6, 8), 6);
    Bench.due("undo()", x.undo(), 1);
    Bench.due("undo(), the text's own cold stays", x.undo(), Bench.NO);
    EveryPew y = typed("church 5;family 0 0 1 1 0;");
    Bench.due("read() of one", y.read(), 2);
    Bench.due("family behind it: the second", y.family(0, 0, 1, 1, 2), 1);
  }
}
