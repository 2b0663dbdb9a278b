/**
 * The promises of the document one by one. The answers were worked out from its words, most of them by hand
 * (sundays(999999, 60) by a few lines apart from the class); digests ahead of refused calls are the class's own,
 * and anyNumber looks only at that nothing is thrown.
 */
public final class PromiseTest {
  private static final int NONE = -1, BAD = -2, NO = -3, FULL = -4;
  private static int checks = 0;
  private static int wrong = 0;
  private static int promise = 0;

  private static void due(String call, long got, long want) {
    checks++;
    if (got != want) {
      wrong++;
      System.out.println("promise " + promise + ": " + call + " answered " + got + ", due is " + want);
    }
  }

  private static void type(EveryPew x, String text) {
    for (int i = 0; i < text.length(); i++) x.type(text.charAt(i));
  }

  /** What reading a text answers on a new object. */
  private static void reads(String text, long want) {
    EveryPew x = new EveryPew();
    type(x, text);
    due("read() of '" + text + "'", x.read(), want);
  }

  /** That so many calls were refused by each reason, and nothing else has changed. */
  private static void refused(EveryPew x, long digest, int bad, int no, int full) {
    due("digest()", x.digest(), digest);
    due("status(0)", x.status(0), bad);
    due("status(1)", x.status(1), no);
    due("status(2)", x.status(2), full);
  }

  /** Book 0 kneels at words 1 and 3, book 1 at 2 and 3, so words 0 to 3 are all the cases there are. */
  private static EveryPew fourCases() {
    EveryPew x = new EveryPew();
    x.book(0, 10);
    x.book(1, 12);
    return x;
  }

  public static void main(String[] args) {
    aNewObject();
    church();
    book();
    family();
    typeAndClear();
    read();
    readFaults();
    move();
    cold();
    undo();
    of();
    at();
    atOfKinds();
    upAndSeers();
    loud();
    breach();
    canNot();
    seats();
    change();
    still();
    heardAndForget();
    coughed();
    next();
    is();
    deacons();
    feasts();
    colds();
    sundays();
    part();
    images();
    status();
    count();
    digest();
    anyNumber();
    System.out.println(checks - wrong + " of " + checks + " answers as due");
    if (wrong > 0) System.exit(1);
  }

  private static void aNewObject() {
    promise = 1;
    EveryPew x = new EveryPew();
    long[] counts = {0, 9, 0, 16, 0, 0, 0};
    for (int i = 0; i < 7; i++) due("count(" + i + ")", x.count(i), counts[i]);
    due("part(0)", x.part(0), 0);
    due("part(1)", x.part(1), 1);
    due("book(0, 0)", x.book(0, 0), 0);
    due("book(1, 0)", x.book(1, 0), 0);
    for (int i = 0; i < 3; i++) due("status(" + i + ")", x.status(i), 0);
    due("from(0)", x.from(0), NO);
    due("from(1)", x.from(1), NO);
    due("NONE", EveryPew.NONE, -1);
    due("BAD", EveryPew.BAD, -2);
    due("NO", EveryPew.NO, -3);
    due("FULL", EveryPew.FULL, -4);
  }

  private static void church() {
    promise = 2;
    EveryPew x = new EveryPew();
    x.book(0, 5);
    x.book(1, 7);
    x.family(0, 0, 3, 4, 2);
    x.family(1, 1, 3, 4, 3);
    x.cold(1, 1);
    x.heard(1, 0, 4);
    x.image(1);
    x.colds(0, 10);
    x.type('c');
    long before = x.digest();
    due("church(-1)", x.church(-1), BAD);
    due("church(31)", x.church(31), BAD);
    refused(x, before, 2, 0, 0);
    due("church(30)", x.church(30), 2);
    long[] counts = {0, 30, 0, 16, 0, 0, 1};
    for (int i = 0; i < 7; i++) due("count(" + i + ")", x.count(i), counts[i]);
    due("book(0, 0)", x.book(0, 0), 0);
    due("book(1, 0)", x.book(1, 0), 0);
    due("part(0)", x.part(0), 1);
    due("part(1)", x.part(1), 1);
    due("status(0)", x.status(0), 2);
    due("church(0)", x.church(0), 0);
    due("count(1)", x.count(1), 0);
    due("undo()", x.undo(), NO);
    due("from(1)", x.from(1), 1);
    due("count(0)", x.count(0), 2);
    x.church(9);
    due("a family behind church", x.family(0, 0, 1, 1, 0), 0);
    due("of(0, 5)", x.of(0, 5), 0);
  }

  private static void book() {
    promise = 3;
    EveryPew x = new EveryPew();
    due("book(0, 65535)", x.book(0, 65535), 0);
    due("book(0, 3)", x.book(0, 3), 65535);
    due("book(1, 4)", x.book(1, 4), 0);
    due("book(0, 0)", x.book(0, 0), 3);
    due("book(1, 0)", x.book(1, 0), 4);
    long before = x.digest();
    due("book(2, 0)", x.book(2, 0), BAD);
    due("book(-1, 0)", x.book(-1, 0), BAD);
    due("book(0, 65536)", x.book(0, 65536), BAD);
    due("book(1, -1)", x.book(1, -1), BAD);
    refused(x, before, 4, 0, 0);
    x.family(0, 0, 1, 1, 0);
    x.cold(0, 1);
    x.book(0, 9);
    due("count(5): a book leaves what may be undone", x.count(5), 1);
    x.undo();
    due("book(0, 0) behind undo", x.book(0, 0), 9);
  }

  private static void family() {
    promise = 4;
    EveryPew x = new EveryPew();
    due("family(5, 1, 9, 20, 9)", x.family(5, 1, 9, 20, 9), 0);
    due("family(0, 0, 1, 1, 0)", x.family(0, 0, 1, 1, 0), 1);
    long before = x.digest();
    due("kind 6", x.family(6, 0, 1, 1, 2), BAD);
    due("kind -1", x.family(-1, 0, 1, 1, 2), BAD);
    due("book 2", x.family(0, 2, 1, 1, 2), BAD);
    due("book -1", x.family(0, -1, 1, 1, 2), BAD);
    due("tall 0", x.family(0, 0, 0, 1, 2), BAD);
    due("tall 10", x.family(0, 0, 10, 1, 2), BAD);
    due("voices 0", x.family(0, 0, 1, 0, 2), BAD);
    due("voices 21", x.family(0, 0, 1, 21, 2), BAD);
    due("pew -1 of book 1", x.family(0, 1, 1, 1, -1), BAD);
    due("pew -2", x.family(0, 0, 1, 1, -2), BAD);
    due("pew 10", x.family(0, 0, 1, 1, 10), BAD);
    due("pew 11", x.family(0, 1, 1, 1, 11), BAD);
    due("the other book's pew", x.family(0, 0, 1, 1, 3), BAD);
    due("the other book's pew, taken too", x.family(0, 0, 1, 1, 9), BAD);
    due("a taken pew", x.family(0, 0, 1, 1, 0), NO);
    refused(x, before, 14, 1, 0);
    for (int i = 2; i < 6; i++) due("another one", x.family(0, 0, 1, 1, 2 * i - 2), i);
    due("the seventh", x.family(0, 1, 1, 1, 1), 6);
    due("an eighth", x.family(0, 1, 1, 1, 3), FULL);
    due("an eighth on a taken pew", x.family(0, 1, 1, 1, 1), NO);
    due("an eighth, all wrong", x.family(0, 1, 1, 1, 2), BAD);
    due("count(0)", x.count(0), 7);
    due("status(2)", x.status(2), 1);
  }

  private static void typeAndClear() {
    promise = 5;
    EveryPew x = new EveryPew();
    due("type(-1)", x.type(-1), BAD);
    due("type(128)", x.type(128), BAD);
    due("type(0)", x.type(0), 1);
    due("type(127)", x.type(127), 2);
    for (int i = 3; i <= 150; i++) due("type(32)", x.type(32), i);
    long before = x.digest();
    due("type(32) in a full text", x.type(32), FULL);
    due("type(128) in a full text", x.type(128), BAD);
    refused(x, before, 3, 0, 1);
    promise = 6;
    due("clear()", x.clear(), 150);
    due("clear()", x.clear(), 0);
    due("count(6)", x.count(6), 0);
    type(x, "church 3;");
    due("read() behind clear", x.read(), 1);
    due("clear() behind read", x.clear(), 9);
    due("read() of nothing", x.read(), -10);
  }

  private static void read() {
    promise = 7;
    EveryPew x = new EveryPew();
    x.family(0, 0, 5, 5, 0);
    x.book(0, 1);
    x.heard(0, 0, 5);
    x.cold(0, 1);
    x.image(0);
    x.colds(0, 3);
    x.type(-1);
    type(x, "  church07 ;book 1 15 00 3 3;family 2 1 9 20 9;family 4 0 1 1 0; cold 1;cold1;book 1 2;");
    due("read()", x.read(), 7);
    due("count(0)", x.count(0), 2);
    due("count(1)", x.count(1), 7);
    due("count(2)", x.count(2), 1);
    due("count(4)", x.count(4), 0);
    due("count(5)", x.count(5), 0);
    due("count(6)", x.count(6), 87);
    due("book(0, 0)", x.book(0, 0), 0);
    due("book(1, 0): those alone", x.book(1, 0), 4);
    int[][] of = {{2, 1, 9, 20, 9, 0}, {4, 0, 1, 1, 0, 1}};
    for (int f = 0; f < 2; f++)
      for (int i = 0; i < 6; i++) due("of(" + f + ", " + i + ")", x.of(f, i), of[f][i]);
    due("undo()", x.undo(), NO);
    due("part(1)", x.part(1), 1);
    due("status(0)", x.status(0), 1);
    due("from(0)", x.from(0), 1);
    due("count(4) of the image", x.count(4), 1);
    due("count(6)", x.count(6), 87);
    due("read() again", x.read(), 7);

    EveryPew y = new EveryPew();
    y.family(0, 0, 5, 5, 0);
    y.cold(0, 1);
    y.heard(3, 1, 7);
    type(y, "church 3;family 1 1 1 1 1;book 0 1;cold 0;family 1 1 1 1 1;");
    long before = y.digest();
    due("read() with a fault", y.read(), -10 - 57);
    refused(y, before, 0, 0, 0);
    due("undo() behind a fault", y.undo(), 0);
  }

  private static void readFaults() {
    promise = 7;
    reads("", -10);
    reads("   ", -13);
    reads("church", -16);
    reads("church 3", -18);
    reads("church 3 ", -19);
    reads("church 3;", 1);
    reads("church 0;", 1);
    reads("dhurch 3;", -10);
    reads("churci 3;", -10);
    reads("church 3;cola 0;", -19);
    reads(" ".repeat(150), -160);
    reads("z".repeat(150), -10);
    reads("z".repeat(160), -10);
    reads("church 0z;", -18);
    reads("7".repeat(150), -10);
    reads(" ".repeat(144) + "church", -160);
    reads(" ".repeat(142) + "church30", -160);
    reads(" ".repeat(141) + "church30;", 1);
    reads("church 3; ", 1);
    reads("church30;", 1);
    reads("church 31;", -17);
    reads("church 003;", -17);
    reads("church ;", -17);
    reads("church church;", -17);
    reads("church 3 3;", -19);
    reads("church 3book", -18);
    reads("chur", -10);
    reads("churches 3;", -10);
    reads("Church 3;", -10);
    reads("churcH 3;", -10);
    reads("church\t3;", -16);
    reads("3;", -10);
    reads(";", -10);
    reads(" book 0;church 3;", -11);
    reads("church 3;church 3;", -19);
    reads("church 3;;", -19);
    reads("church 3;7", -19);
    reads("church 3;pew 0;", -19);
    reads("church 3;book", -23);
    reads("church 3;book;", -23);
    reads("church 3;book 2;", -24);
    reads("church 3;book 1;", 2);
    reads("church 3;book 1 0 15;", 2);
    reads("church 3;book 1 16;", -26);
    reads("church 3;book 1 0150;", -26);
    reads("church 3;book 1 7", -27);
    reads("church 3;book 1 cold 0;", -26);
    reads("church 3;book 1 7{;", -27);
    reads("church 3;cold 0;", -24);
    reads("church 3;family 0 0 1 1 0;cold 0;", 3);
    reads("church 3;family 0 0 1 1 0;cold 1;", -41);
    reads("church 3;cold 0;family 0 0 1 1 0;", -24);
    reads("church 3;family 6 0 1 1 0;", -26);
    reads("church 3;family 5 2 1 1 0;", -28);
    reads("church 3;family 5 1 0 1 1;", -30);
    reads("church 3;family 5 1 10 1 1;", -30);
    reads("church 3;family 5 1 9 0 1;", -32);
    reads("church 3;family 5 1 9 21 1;", -32);
    reads("church 3;family 5 1 9 20 11;", -35);
    reads("church 3;family 5 1 9 20 2;", -35);
    reads("church 3;family 5 1 9 20 9", -36);
    reads("church 3;family 5 1 9 20 9 9;", -37);
    reads("church 3;family 0 0 1 1 0;family 0 0 1 1 0;", -10 - 41);
    reads("church 3;family 0 0 1 1 0;family 0 0 1 1 2;", 3);
    StringBuilder seven = new StringBuilder("church3;");
    for (int i = 0; i < 7; i++) seven.append("family 0 ").append(i % 2).append(" 1 1 ").append(i).append(";");
    reads(seven.toString(), 8);
    reads(seven + "family", -10 - 127);
    reads(seven + " family 0 0 1 1 8", -10 - 128);
  }

  private static void move() {
    promise = 8;
    EveryPew x = new EveryPew();
    x.family(0, 0, 1, 1, 0);
    x.family(0, 0, 1, 1, 4);
    x.family(0, 1, 1, 1, 5);
    long before = x.digest();
    due("move(3, 2)", x.move(3, 2), BAD);
    due("move(-1, 2)", x.move(-1, 2), BAD);
    due("move(0, -2)", x.move(0, -2), BAD);
    due("move(0, 10)", x.move(0, 10), BAD);
    due("move(0, 5), the other book's", x.move(0, 5), BAD);
    due("move(2, 11)", x.move(2, 11), BAD);
    due("move(2, -1)", x.move(2, -1), BAD);
    due("move(0, 4)", x.move(0, 4), NO);
    due("move(0, 0), where it sits", x.move(0, 0), NO);
    refused(x, before, 7, 2, 0);
    due("move(0, 8)", x.move(0, 8), 0);
    due("of(0, 4)", x.of(0, 4), 8);
    due("move(1, 0)", x.move(1, 0), 4);
    due("move(0, 4)", x.move(0, 4), 8);
    due("count(5)", x.count(5), 3);
  }

  private static void cold() {
    promise = 9;
    EveryPew x = new EveryPew();
    x.family(0, 0, 1, 1, 0);
    x.family(0, 1, 1, 1, 1);
    long before = x.digest();
    due("cold(2, 0)", x.cold(2, 0), BAD);
    due("cold(-1, 0)", x.cold(-1, 0), BAD);
    due("cold(0, 2)", x.cold(0, 2), BAD);
    due("cold(0, -1)", x.cold(0, -1), BAD);
    refused(x, before, 4, 0, 0);
    due("cold(1, 1)", x.cold(1, 1), 0);
    due("cold(1, 1)", x.cold(1, 1), 1);
    due("of(1, 5)", x.of(1, 5), 1);
    due("of(0, 5)", x.of(0, 5), 0);
    due("cold(0, 0)", x.cold(0, 0), 0);
    due("cold(1, 0)", x.cold(1, 0), 1);
    due("of(1, 5)", x.of(1, 5), 0);
    due("count(5)", x.count(5), 4);
  }

  private static void undo() {
    promise = 10;
    EveryPew x = new EveryPew();
    due("undo()", x.undo(), NO);
    x.family(0, 0, 1, 1, 0);
    x.family(0, 1, 1, 1, 1);
    due("undo() behind families", x.undo(), NO);
    x.cold(0, 1);
    x.move(0, 2);
    x.cold(1, 1);
    x.heard(0, 0, 1);
    due("undo()", x.undo(), 1);
    due("of(0, 4)", x.of(0, 4), 2);
    due("undo()", x.undo(), 1);
    due("of(0, 4)", x.of(0, 4), 0);
    due("undo()", x.undo(), 0);
    due("undo()", x.undo(), NO);
    due("count(4): what was heard stays", x.count(4), 1);
    due("status(1)", x.status(1), 3);
    x.move(1, 3);
    x.move(1, 5);
    for (int i = 0; i < 7; i++) x.move(0, i % 2 == 0 ? 4 : 0);
    due("count(5): 8 at most", x.count(5), 8);
    for (int i = 0; i < 8; i++) due("undo()", x.undo(), 0);
    due("undo() a ninth time", x.undo(), NO);
    due("of(1, 4): the oldest is gone", x.of(1, 4), 3);
    due("of(0, 4)", x.of(0, 4), 0);
    x.cold(0, 1);
    x.family(0, 1, 1, 1, 9);
    due("count(5): none behind a family", x.count(5), 0);
    due("undo()", x.undo(), NO);
    due("count(2)", x.count(2), 1);
    x.cold(0, 0);
    for (int i = 0; i < 8; i++) x.cold(i % 3, 1 - i % 2);
    // Behind the nine: cold(0, 0); then 0 ill, 1 well, 2 ill, 0 well, 1 ill, 2 well, 0 ill, 1 well.
    long[] ill = {2, 1, 2, 1, 2, 1, 1, 0};
    for (int i = 0; i < 8; i++) due("undo() of colds", x.undo(), ill[i]);
    due("undo() of colds", x.undo(), NO);
  }

  private static void of() {
    promise = 11;
    EveryPew x = new EveryPew();
    x.family(1, 0, 2, 3, 4);
    x.family(5, 1, 8, 20, 7);
    x.cold(1, 1);
    int[][] due = {{1, 0, 2, 3, 4, 0}, {5, 1, 8, 20, 7, 1}};
    for (int f = 0; f < 2; f++)
      for (int i = 0; i < 6; i++) due("of(" + f + ", " + i + ")", x.of(f, i), due[f][i]);
    long before = x.digest();
    due("of(2, 0)", x.of(2, 0), BAD);
    due("of(-1, 0)", x.of(-1, 0), BAD);
    due("of(0, 6)", x.of(0, 6), BAD);
    due("of(0, -1)", x.of(0, -1), BAD);
    refused(x, before, 4, 0, 0);
  }

  private static void at() {
    promise = 12;
    EveryPew x = fourCases();
    x.family(0, 0, 5, 7, 4);
    x.family(0, 1, 5, 7, 3);
    long before = x.digest();
    due("at(2, 0, 0)", x.at(2, 0, 0), BAD);
    due("at(-1, 0, 0)", x.at(-1, 0, 0), BAD);
    due("at(0, 16, 0)", x.at(0, 16, 0), BAD);
    due("at(0, -1, 0)", x.at(0, -1, 0), BAD);
    due("at(0, 0, 4)", x.at(0, 0, 4), BAD);
    due("at(0, 0, -1)", x.at(0, 0, -1), BAD);
    refused(x, before, 6, 0, 0);
    due("at(0, 0, 3): as high ahead", x.at(0, 0, 3), 0);
    due("at(0, 2, 3): that one kneels", x.at(0, 2, 3), 1);
    due("at(1, 1, 3): nobody ahead", x.at(1, 1, 3), 1);
    x.cold(0, 1);
    due("at(0, 0, 2): a cold", x.at(0, 0, 2), 0);
    due("at(0, 0, 1)", x.at(0, 0, 1), 5);
  }

  /** Each kind, tall 7 with 9 voices and tall 1 with 1, at the words 0 (neither), 1 (own), 2 (other), 3 (both). */
  private static void atOfKinds() {
    promise = 12;
    int[][] kneels = {{0, 1, 0, 1}, {0, 1, 0, 1}, {0, 1, 1, 1}, {0, 0, 0, 0}, {0, 1, 0, 1}, {0, 0, 0, 1}};
    int[][] high = {{7, 3, 7, 3}, {7, 3, 7, 3}, {7, 3, 3, 3}, {8, 8, 8, 8}, {5, 1, 5, 1}, {7, 7, 7, 3}};
    int[][] voices = {{9, 0, 9, 0}, {4, 0, 4, 0}, {9, 0, 0, 0}, {9, 9, 9, 9}, {4, 0, 4, 0}, {8, 8, 8, 0}};
    int[][] little = {{1, 0, 1, 0}, {1, 0, 1, 0}, {1, 0, 0, 0}, {2, 2, 2, 2}, {0, 0, 0, 0}, {1, 1, 1, 0}};
    int[][] hushed = {{1, 0, 1, 0}, {0, 0, 0, 0}, {1, 0, 0, 0}, {1, 1, 1, 1}, {0, 0, 0, 0}, {0, 0, 0, 0}};
    for (int kind = 0; kind < 6; kind++) {
      for (int b = 0; b < 2; b++) {
        EveryPew x = fourCases();
        x.family(kind, b, 7, 9, b);
        x.family(kind, b, 1, 1, b + 2);
        for (int c = 0; c < 4; c++) {
          int w = b == 0 || c % 3 == 0 ? c : 3 - c;
          String call = "kind " + kind + " of book " + b + ", at(.., " + w + ", ";
          due(call + "0)", x.at(0, w, 0), kneels[kind][c]);
          due(call + "1)", x.at(0, w, 1), high[kind][c]);
          due(call + "2)", x.at(0, w, 2), voices[kind][c]);
          due(call + "1), little", x.at(1, w, 1), little[kind][c]);
          due(call + "2), hushed", x.at(1, w, 2), hushed[kind][c]);
        }
      }
    }
  }

  private static void upAndSeers() {
    promise = 13;
    EveryPew x = fourCases();
    due("up(0) of nobody", x.up(0), 0);
    x.family(0, 0, 4, 1, 0);
    x.family(0, 1, 4, 1, 1);
    x.family(3, 0, 4, 1, 8);
    x.family(2, 1, 9, 1, 9);
    due("up(0)", x.up(0), 15);
    due("up(1)", x.up(1), 2 + 4);
    due("up(2)", x.up(2), 1 + 4);
    due("up(3)", x.up(3), 4);
    due("up(15)", x.up(15), 15);
    long before = x.digest();
    due("up(16)", x.up(16), BAD);
    due("up(-1)", x.up(-1), BAD);
    refused(x, before, 2, 0, 0);
    promise = 14;
    due("seers(0): 4 4 5 9", x.seers(0), 1 + 4 + 8);
    due("seers(1): 2 4 5 4", x.seers(1), 1 + 2 + 4);
    due("seers(2): 4 2 5 4", x.seers(2), 1 + 4);
    due("seers(3): 2 2 5 4", x.seers(3), 1 + 4);
    due("seers(15)", x.seers(15), 13);
    due("seers(16)", x.seers(16), BAD);
    due("seers(-1)", x.seers(-1), BAD);
    refused(x, before, 4, 0, 0);
    x.move(2, 6);
    x.move(0, 8);
    due("seers(0): 4 in 1, 5 in 6, 4 in 8, 9 in 9", x.seers(0), 2 + 4 + 8);
  }

  private static void loud() {
    promise = 15;
    EveryPew x = fourCases();
    due("loud(0, 0) of nobody", x.loud(0, 0), 0);
    x.family(0, 0, 4, 20, 0);
    x.family(1, 0, 4, 7, 2);
    x.family(5, 1, 4, 6, 1);
    long[][] louds = {{23, 5}, {0, 5}, {23, 5}, {0, 0}};
    for (int w = 0; w < 4; w++)
      for (int b = 0; b < 2; b++) due("loud(" + w + ", " + b + ")", x.loud(w, b), louds[w][b]);
    x.cold(0, 1);
    due("loud(0, 0), one with a cold", x.loud(0, 0), 3);
    long before = x.digest();
    due("loud(16, 0)", x.loud(16, 0), BAD);
    due("loud(-1, 0)", x.loud(-1, 0), BAD);
    due("loud(0, 2)", x.loud(0, 2), BAD);
    due("loud(0, -1)", x.loud(0, -1), BAD);
    refused(x, before, 4, 0, 0);
  }

  private static void breach() {
    promise = 16;
    EveryPew x = new EveryPew();
    x.church(9);
    x.book(0, 65535 - 8 - 512);
    x.family(0, 0, 1, 10, 0);
    due("breach(0)", x.breach(0), 3);
    due("breach(3)", x.breach(3), 3);
    due("breach(4)", x.breach(4), 9);
    due("breach(10)", x.breach(10), NONE);
    due("breach(15)", x.breach(15), NONE);
    x.family(3, 1, 1, 1, 1);
    due("10 against 1", x.breach(0), NONE);
    x.family(3, 1, 1, 9, 3);
    due("0 against 10", x.breach(0), 0);
    long before = x.digest();
    due("breach(16)", x.breach(16), BAD);
    due("breach(-1)", x.breach(-1), BAD);
    refused(x, before, 2, 0, 0);
  }

  private static void canNot() {
    promise = 17;
    EveryPew x = fourCases();
    due("canNot()", x.canNot(), 6);
    x.book(1, 65535);
    due("canNot()", x.canNot(), 65525);
    x.book(0, 65535);
    due("canNot()", x.canNot(), 0);
  }

  private static void seats() {
    promise = 18;
    EveryPew x = new EveryPew();
    due("seats(NONE) of nobody", x.seats(NONE), 0);
    due("seats(0) of nobody", x.seats(0), -10);
    due("status(0)", x.status(0), 1);
    x.family(0, 0, 9, 1, 0);
    x.family(0, 0, 5, 1, 8);
    x.family(0, 1, 7, 1, 9);
    long before = x.digest();
    due("seats(NONE)", x.seats(NONE), 48);
    due("seats(0)", x.seats(0), 2);
    due("seats(1)", x.seats(1), 0);
    due("seats(2)", x.seats(2), 1);
    due("seats(3)", x.seats(3), -10);
    due("seats(-2)", x.seats(-2), -10);
    refused(x, before, 3, 0, 0);
    EveryPew y = new EveryPew();
    for (int i = 0; i < 5; i++) y.family(0, 0, 4, 1, 2 * i);
    due("seats(NONE), all alike", y.seats(NONE), 16);
    for (int i = 0; i < 5; i++) due("seats(" + i + "), all alike", y.seats(i), 2 * i);
    EveryPew z = new EveryPew();
    z.book(0, 255);
    z.family(0, 0, 8, 1, 0);
    z.family(3, 1, 4, 1, 1);
    // Kneeling 4, standing 8, against 5 at all words: ahead one sees at 16, behind it at the 8 where it stands.
    due("seats(NONE), the deacon behind", z.seats(NONE), 24);
    due("seats(0)", z.seats(0), 0);
    due("seats(1)", z.seats(1), 1);
    z.book(0, 127);
    due("seats(NONE), the deacon ahead", z.seats(NONE), 25);
    due("seats(0)", z.seats(0), 2);
    due("seats(1)", z.seats(1), 1);
    EveryPew small = new EveryPew();
    small.family(4, 0, 2, 1, 0);
    small.family(4, 1, 1, 1, 1);
    due("seats(NONE), none is high at all", small.seats(NONE), 16);
    due("seats(0)", small.seats(0), 0);
    due("seats(1)", small.seats(1), 1);
    EveryPew seven = new EveryPew();
    for (int i = 0; i < 4; i++) seven.family(0, 0, 8 - 2 * i, 1, 2 * i);
    for (int i = 0; i < 3; i++) seven.family(0, 1, 7 - 2 * i, 1, 2 * i + 1);
    due("seats(NONE), seven by height", seven.seats(NONE), 112);
    for (int i = 0; i < 4; i++) due("seats(" + i + "), by height", seven.seats(i), 6 - 2 * i);
    for (int i = 0; i < 3; i++) due("seats(" + (4 + i) + "), by height", seven.seats(4 + i), 5 - 2 * i);
  }

  private static void change() {
    promise = 19;
    EveryPew x = new EveryPew();
    due("change(0) of nobody", x.change(0), 7);
    due("change(1) of nobody", x.change(1), 16);
    x.church(2);
    x.family(0, 0, 1, 3, 0);
    x.family(0, 0, 1, 6, 2);
    x.family(0, 1, 1, 1, 1);
    // 9 against 1: by 3 it were 6 against 4, by 6 3 against 7, by 1 10 against 0.
    due("change(0)", x.change(0), 0);
    due("change(1)", x.change(1), 16);
    x.book(1, 3);
    // Words 0 and 1: 9 against 0; changed, the 3 kneel there: 6 against 0; the 6 too: 3 against 0.
    due("change(0), a book that kneels", x.change(0), 0);
    due("change(1), a book that kneels", x.change(1), 14);
    due("of(0, 1): nothing is changed", x.of(0, 1), 0);
    x.cold(1, 1);
    // 3 against 1, and at words 0 and 1 against 0; changed, the 3 are gone there.
    due("change(0), one with a cold", x.change(0), 7);
    due("change(1), one with a cold", x.change(1), 14);
    x.church(0);
    x.family(0, 0, 1, 2, 0);
    x.family(0, 0, 1, 2, 2);
    due("change(0), of like ones", x.change(0), 0);
    x.cold(0, 1);
    due("change(0), none helps", x.change(0), 7);
    due("change(1), none helps", x.change(1), 0);
    x.family(0, 1, 1, 3, 3);
    x.family(0, 1, 1, 5, 5);
    // 2 against 8: by the 3 it were 5 against 5.
    due("change(0), one of book 1", x.change(0), 2);
    due("change(1), one of book 1", x.change(1), 16);
    long before = x.digest();
    due("change(2)", x.change(2), BAD);
    due("change(-1)", x.change(-1), BAD);
    refused(x, before, 2, 0, 0);
  }

  private static void still() {
    promise = 20;
    EveryPew x = new EveryPew();
    due("still() of nobody", x.still(), 0);
    x.church(0);
    x.family(0, 0, 1, 3, 0);
    x.family(0, 0, 1, 3, 2);
    x.family(0, 0, 1, 6, 4);
    x.family(0, 1, 1, 6, 1);
    due("still(): fewest, though another set is less", x.still(), 4);
    x.church(2);
    x.family(0, 0, 1, 5, 0);
    x.family(0, 0, 1, 4, 2);
    x.family(0, 0, 1, 5, 4);
    x.family(0, 1, 1, 7, 1);
    // 14 against 7: any one less 9 or 10 against 7.
    due("still(): of like ones the least", x.still(), 1);
    x.church(1);
    x.family(0, 0, 1, 5, 0);
    x.family(0, 0, 1, 4, 2);
    x.family(0, 0, 1, 5, 4);
    x.family(0, 1, 1, 4, 1);
    due("still(): 14 against 4, two less", x.still(), 3);
    x.cold(0, 1);
    due("still(): besides the one", x.still(), 2);
    x.cold(1, 1);
    due("still(): 5 against 4 is a peace", x.still(), 0);
    x.book(1, 32768);
    due("still(): at the last word 5 against 0", x.still(), 12);
    due("count(2): nothing is changed", x.count(2), 2);
  }

  private static void heardAndForget() {
    promise = 21;
    EveryPew x = new EveryPew();
    long before = x.digest();
    due("heard(16, 0, 0)", x.heard(16, 0, 0), BAD);
    due("heard(-1, 0, 0)", x.heard(-1, 0, 0), BAD);
    due("heard(0, 2, 0)", x.heard(0, 2, 0), BAD);
    due("heard(0, -1, 0)", x.heard(0, -1, 0), BAD);
    due("heard(0, 0, 141)", x.heard(0, 0, 141), BAD);
    due("heard(0, 0, -1)", x.heard(0, 0, -1), BAD);
    refused(x, before, 6, 0, 0);
    due("heard(15, 1, 140)", x.heard(15, 1, 140), 1);
    for (int i = 2; i <= 6; i++) due("heard(0, 0, 0)", x.heard(0, 0, 0), i);
    before = x.digest();
    due("heard(0, 0, 0), a seventh", x.heard(0, 0, 0), FULL);
    due("heard(0, 0, 141), a seventh", x.heard(0, 0, 141), BAD);
    refused(x, before, 7, 0, 1);
    promise = 22;
    due("forget()", x.forget(), 6);
    due("forget()", x.forget(), 0);
    due("count(4)", x.count(4), 0);
    promise = 21;
    due("heard(0, 0, 0) behind forget", x.heard(0, 0, 0), 1);
  }

  private static void coughed() {
    promise = 23;
    EveryPew x = new EveryPew();
    due("coughed(0) of nobody", x.coughed(0), 1);
    due("coughed(1) of nobody", x.coughed(1), 0);
    due("coughed(2) of nobody", x.coughed(2), 0);
    x.family(0, 0, 1, 5, 0);
    x.family(0, 0, 1, 5, 2);
    x.family(0, 0, 1, 3, 4);
    x.family(0, 1, 1, 3, 1);
    due("coughed(0), nothing heard", x.coughed(0), 16);
    due("coughed(2), nothing heard", x.coughed(2), 15);
    x.cold(3, 1);
    due("coughed(0), who has one now is no matter", x.coughed(0), 16);
    x.heard(0, 0, 5);
    // 5: one of the two fives alone; the three coughed; the other book free.
    due("coughed(0)", x.coughed(0), 4);
    due("coughed(1)", x.coughed(1), 4);
    due("coughed(2)", x.coughed(2), 15);
    x.heard(7, 1, 3);
    due("coughed(0), the other book heard", x.coughed(0), 2);
    due("coughed(2), the other book heard", x.coughed(2), 7);
    x.heard(1, 0, 8);
    due("coughed(0), no set", x.coughed(0), 0);
    due("coughed(1), no set", x.coughed(1), NONE);
    due("coughed(2), no set", x.coughed(2), 0);
    long before = x.digest();
    due("coughed(3)", x.coughed(3), BAD);
    due("coughed(-1)", x.coughed(-1), BAD);
    refused(x, before, 2, 0, 0);
  }

  private static void next() {
    promise = 24;
    EveryPew x = new EveryPew();
    due("next() of nobody", x.next(), 0);
    x.book(0, 3);
    x.book(1, 4);
    x.family(0, 0, 1, 5, 0);
    x.family(2, 0, 1, 3, 2);
    // Words 0, 1: nobody up; 2: the 5 alone, sets by two and two; from 3 on: all four unlike.
    due("next()", x.next(), 3);
    x.heard(3, 0, 5);
    due("next(), one set left", x.next(), 0);
    x.forget();
    x.heard(0, 0, 1);
    due("next(), no set", x.next(), NONE);
    x.forget();
    x.book(1, 65532);
    due("next(), where the convert kneels", x.next(), 2);
    x.book(0, 65535);
    due("next(), all words alike", x.next(), 0);
  }

  private static void is() {
    promise = 25;
    EveryPew x = fourCases();
    x.family(0, 0, 5, 8, 0);
    x.family(0, 1, 5, 2, 1);
    due("is(0), nothing heard", x.is(0), 63);
    x.heard(0, 0, 8);
    due("is(0): 8 of 8", x.is(0), 1 + 4 + 8);
    x.heard(2, 0, 8);
    due("is(0): and while the other book kneels", x.is(0), 1 + 8);
    x.heard(3, 0, 8);
    due("is(0): and at both", x.is(0), 8);
    due("is(1): nothing makes the plain one loud there", x.is(1), 0);
    x.forget();
    x.heard(0, 0, 4);
    due("is(0): half", x.is(0), 2 + 16);
    x.forget();
    x.heard(1, 0, 7);
    due("is(0): one less", x.is(0), 32);
    x.forget();
    x.heard(0, 0, 0);
    due("is(0): none", x.is(0), 0);
    x.cold(0, 1);
    due("is(0), a cold", x.is(0), 63);
    due("of(0, 0): nothing is changed", x.of(0, 0), 0);
    long before = x.digest();
    due("is(2)", x.is(2), BAD);
    due("is(-1)", x.is(-1), BAD);
    refused(x, before, 2, 0, 0);
  }

  private static void deacons() {
    promise = 26;
    EveryPew x = fourCases();
    due("deacons(0) of nobody", x.deacons(0), 15);
    x.family(0, 0, 1, 10, 0);
    due("deacons(0), book 1 has none", x.deacons(0), 1 + 4);
    x.family(0, 0, 1, 10, 2);
    x.family(0, 1, 1, 5, 1);
    due("deacons(0)", x.deacons(0), 1);
    due("deacons(1), book 0's kneels", x.deacons(1), 1 + 2);
    due("deacons(2), book 1's kneels", x.deacons(2), 1 + 4);
    due("deacons(3), both kneel", x.deacons(3), 15);
    x.cold(1, 1);
    due("deacons(0), the second of like ones has a cold", x.deacons(0), 1);
    x.cold(0, 1);
    due("deacons(0), the first has a cold", x.deacons(0), 1 + 2);
    x.cold(1, 0);
    due("deacons(0), the first alone has a cold", x.deacons(0), 1 + 2);
    x.family(1, 1, 1, 6, 3);
    x.cold(3, 1);
    due("deacons(0), most voices as told, with a cold", x.deacons(0), 15);
    long before = x.digest();
    due("deacons(16)", x.deacons(16), BAD);
    due("deacons(-1)", x.deacons(-1), BAD);
    refused(x, before, 2, 0, 0);
    x.church(9);
    x.family(4, 0, 1, 1, 0);
    due("deacons(0), half of 1 is none", x.deacons(0), 15);
  }

  private static void feasts() {
    promise = 27;
    EveryPew x = new EveryPew();
    due("feasts(4, 1, 6, 3)", x.feasts(4, 1, 6, 3), 9);
    due("feasts(4, 1, 6, 4)", x.feasts(4, 1, 6, 4), NONE);
    due("feasts(1, 0, 1, 0)", x.feasts(1, 0, 1, 0), 0);
    due("feasts(1, 0, 1, 99)", x.feasts(1, 0, 1, 99), 99);
    due("feasts(40, 0, 40, 80)", x.feasts(40, 0, 40, 80), 80);
    due("feasts(40, 80, 40, 0)", x.feasts(40, 80, 40, 0), 80);
    due("feasts(40, 1, 39, 0)", x.feasts(40, 1, 39, 0), 1521);
    due("feasts(39, 99, 40, 98)", x.feasts(39, 99, 40, 98), 99 + 39);
    due("feasts(40, 99, 39, 99)", x.feasts(40, 99, 39, 99), 99);
    long before = x.digest();
    int[][] bad = {{0, 0, 1, 0}, {41, 0, 1, 0}, {1, -1, 1, 0}, {1, 100, 1, 0}, {1, 0, 0, 0}, {1, 0, 41, 0}, {1, 0, 1, -1}, {1, 0, 1, 100}};
    for (int[] b : bad) due("feasts of a wrong number", x.feasts(b[0], b[1], b[2], b[3]), BAD);
    refused(x, before, 8, 0, 0);
  }

  private static void fraction(EveryPew x, int w, int c, long above, long below) {
    due("colds(" + w + ", " + c + ")", x.colds(w, c), 1);
    due("part(0) behind colds(" + w + ", " + c + ")", x.part(0), above);
    due("part(1) behind colds(" + w + ", " + c + ")", x.part(1), below);
  }

  private static void colds() {
    promise = 28;
    EveryPew x = fourCases();
    fraction(x, 0, 5, 1, 1);
    x.family(0, 0, 1, 10, 0);
    fraction(x, 0, 0, 0, 1);
    fraction(x, 0, 10, 1, 1);
    fraction(x, 0, 2, 1, 5);
    fraction(x, 1, 0, 1, 1);
    x.family(0, 1, 1, 10, 1);
    // Peace, if both or none: 3/10 3/10 and 7/10 7/10.
    fraction(x, 0, 3, 29, 50);
    fraction(x, 15, 1, 41, 50);
    x.cold(0, 1);
    fraction(x, 0, 3, 3, 10);
    due("count(2): nobody caught one", x.count(2), 1);
    x.cold(1, 1);
    fraction(x, 0, 3, 1, 1);
    fraction(x, 0, 7, 1, 1);
    x.undo();
    x.undo();
    x.colds(0, 4);
    long before = x.digest();
    due("colds(16, 0)", x.colds(16, 0), BAD);
    due("colds(-1, 0)", x.colds(-1, 0), BAD);
    due("colds(0, 11)", x.colds(0, 11), BAD);
    due("colds(0, -1)", x.colds(0, -1), BAD);
    refused(x, before, 4, 0, 0);
  }

  private static void sundays() {
    promise = 29;
    EveryPew x = new EveryPew();
    due("sundays(0, 60) of nobody", x.sundays(0, 60), 60);
    due("sundays(999999, 0)", x.sundays(999999, 0), 0);
    x.family(0, 0, 1, 10, 0);
    // By hand: 0 -> 12345 -> 1406932606 -> 654583775; by 65536 cut 0, 21468, 9988: each is 0 by 4.
    due("sundays(0, 1)", x.sundays(0, 1), 1);
    due("sundays(0, 2)", x.sundays(0, 2), 2);
    due("sundays(0, 3)", x.sundays(0, 3), 3);
    // 1449466924 by 65536 cut 22117, by 4 left over 1.
    due("sundays(0, 4)", x.sundays(0, 4), 3);
    x.cold(0, 1);
    due("sundays(0, 4): whoever has one now is no matter", x.sundays(0, 4), 3);
    x.family(0, 1, 1, 10, 1);
    due("sundays(0, 1): both have one", x.sundays(0, 1), 1);
    due("sundays(0, 2): the first alone", x.sundays(0, 2), 1);
    x.family(0, 0, 1, 5, 2);
    due("sundays(999999, 60)", x.sundays(999999, 60), 44);
    due("count(2): nothing is changed", x.count(2), 1);
    long before = x.digest();
    due("sundays(-1, 0)", x.sundays(-1, 0), BAD);
    due("sundays(1000000, 0)", x.sundays(1000000, 0), BAD);
    due("sundays(0, -1)", x.sundays(0, -1), BAD);
    due("sundays(0, 61)", x.sundays(0, 61), BAD);
    refused(x, before, 4, 0, 0);
  }

  private static void part() {
    promise = 30;
    EveryPew x = new EveryPew();
    long before = x.digest();
    due("part(2)", x.part(2), BAD);
    due("part(-1)", x.part(-1), BAD);
    refused(x, before, 2, 0, 0);
    for (int i = 0; i < 7; i++) x.family(3, i % 2, 1, 20, i);
    x.church(0);
    for (int i = 0; i < 5; i++) x.family(0, 0, 1, 1, 2 * i);
    x.family(0, 1, 1, 8, 1);
    x.family(0, 1, 1, 16, 3);
    // Peace only if all seven have one.
    x.colds(0, 1);
    due("part(0)", x.part(0), 1);
    due("part(1)", x.part(1), 10000000);
  }

  private static void images() {
    promise = 31;
    EveryPew x = new EveryPew();
    x.church(3);
    x.book(1, 6);
    x.family(2, 0, 3, 4, 2);
    x.heard(1, 1, 1);
    x.cold(0, 1);
    x.move(0, 6);
    due("image(1)", x.image(1), 1);
    long kept = x.digest();
    due("image(2)", x.image(2), BAD);
    due("image(-1)", x.image(-1), BAD);
    promise = 32;
    due("from(0), none was kept", x.from(0), NO);
    due("from(2)", x.from(2), BAD);
    due("from(-1)", x.from(-1), BAD);
    refused(x, kept, 4, 1, 0);
    x.book(0, 1);
    x.book(1, 2);
    x.family(0, 1, 1, 1, 1);
    x.cold(0, 0);
    x.heard(2, 0, 2);
    due("image(0)", x.image(0), 1);
    long other = x.digest();
    x.church(1);
    x.heard(7, 0, 9);
    x.family(0, 0, 1, 1, 8);
    for (int i = 0; i < 3; i++) x.move(0, 2 * i);
    due("from(1)", x.from(1), 1);
    due("digest()", x.digest(), kept);
    due("undo()", x.undo(), 1);
    due("of(0, 4)", x.of(0, 4), 2);
    due("undo()", x.undo(), 0);
    due("undo()", x.undo(), NO);
    due("from(1): the image itself has not changed", x.from(1), 1);
    due("digest()", x.digest(), kept);
    due("from(0)", x.from(0), 1);
    due("digest()", x.digest(), other);
    due("image(1), kept anew", x.image(1), 1);
    x.church(2);
    x.from(1);
    due("digest()", x.digest(), other);
    x.type('c');
    x.colds(9, 10);
    x.from(1);
    due("count(6): the text is not the image's", x.count(6), 1);
    due("part(0): nor is the fraction", x.part(0), 1);
    due("status(1): nor is the status", x.status(1), 2);
    x.read();
    due("from(1) behind a read", x.from(1), 1);
  }

  private static void status() {
    promise = 33;
    EveryPew x = new EveryPew();
    x.undo();
    x.up(16);
    x.up(17);
    due("status(0)", x.status(0), 2);
    due("status(1)", x.status(1), 1);
    due("status(2)", x.status(2), 0);
    due("status(3)", x.status(3), -1);
    due("status(-1)", x.status(-1), -1);
    due("status(0): another what counts as bad", x.status(0), 4);
    x.seats(0);
    due("status(0): seats' too", x.status(0), 5);
    x.type('z');
    due("read() with a fault", x.read(), -10);
    x.breach(0);
    x.feasts(2, 0, 2, 1);
    due("status(0): a fault, none are no refusals", x.status(0), 5);
    due("status(1)", x.status(1), 1);
    x.church(9);
    due("status(0) behind church", x.status(0), 5);
  }

  private static void count() {
    promise = 34;
    EveryPew x = new EveryPew();
    x.church(5);
    x.book(0, 7);
    x.family(0, 0, 1, 6, 0);
    x.family(0, 0, 1, 6, 2);
    x.cold(0, 1);
    x.cold(1, 0);
    x.heard(0, 0, 0);
    x.heard(0, 0, 1);
    x.heard(0, 0, 2);
    type(x, "abcd");
    long[] counts = {2, 5, 1, 3, 3, 2, 4};
    for (int i = 0; i < 7; i++) due("count(" + i + ")", x.count(i), counts[i]);
    long before = x.digest();
    due("count(7)", x.count(7), BAD);
    due("count(-1)", x.count(-1), BAD);
    refused(x, before, 2, 0, 0);
  }

  private static long digestOf(long... values) {
    long h = 1171;
    for (long v : values) h = 31 * h + v;
    return h;
  }

  private static void digest() {
    promise = 35;
    EveryPew x = new EveryPew();
    due("digest()", x.digest(), digestOf(0, 9, 0, 16, 0, 0, 0, 0, 0, 0, 1));
    x.church(4);
    x.book(0, 3);
    x.book(1, 1);
    x.family(1, 0, 2, 10, 4);
    x.family(5, 1, 3, 1, 7);
    x.cold(1, 1);
    x.heard(9, 1, 7);
    x.heard(8, 0, 5);
    x.colds(2, 3);
    type(x, "ab");
    // 5 voices from word 2 on: no peace there but by a cold.
    due("digest()", x.digest(),
        digestOf(2, 4, 1, 2, 2, 1, 2, 3, 1, 1, 0, 2, 10, 4, 0, 5, 1, 3, 1, 7, 1, 9, 1, 7, 8, 0, 5, 3, 10));
  }

  /** No number whatever makes the machine throw, in a new object and in a full one. */
  private static void anyNumber() {
    promise = 0;
    int[] any = {Integer.MIN_VALUE, Integer.MIN_VALUE + 1, -11, -10, -1, 0, 1, 2, 6, 7, 9, 10, 15, 16, 128, 65536, Integer.MAX_VALUE - 1, Integer.MAX_VALUE};
    for (int full = 0; full < 2; full++) {
      for (int a : any) {
        EveryPew x = new EveryPew();
        for (int i = 0; i < 7 * full; i++) x.family(i % 6, i % 2, 9, 20, i);
        for (int i = 0; i < 150 * full; i++) x.type(i % 128);
        for (int i = 0; i < 6 * full; i++) x.heard(i, i % 2, 20 * i);
        x.read();
        x.image(a);
        x.from(a);
        x.seats(a);
        x.next();
        x.still();
        for (int b : any) {
          x.book(a, b);
          x.move(a, b);
          x.cold(a, b);
          x.of(a, b);
          x.loud(a, b);
          x.colds(a, b);
          x.sundays(a, b);
          for (int c : any) {
            x.at(a, b, c);
            x.heard(a, b, c);
            x.feasts(a, b, c, a);
            x.feasts(a, b, c, c);
            x.family(a, b, c, b, c);
          }
        }
        for (int what : new int[] {a, -a}) {
          x.type(what);
          x.change(what);
          x.coughed(what);
          x.is(what);
          x.deacons(what);
          x.up(what);
          x.seers(what);
          x.breach(what);
          x.part(what);
          x.status(what);
          x.count(what);
        }
        x.digest();
        x.church(a);
        checks++;
      }
    }
  }
}
