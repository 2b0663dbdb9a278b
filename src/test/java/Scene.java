/** An object made by some calls, and all that is to be found in it behind them. */
final class Scene {
  final String name;
  Told church = new Told();
  final Told[] images = {null, null};
  String text = "";
  /** What makes THE TEXT one that can be read, how many ITEMS it has then, and its LIMIT. */
  String rest = "church 1;";
  int items = 1;
  int textLimit = 1;
  long above = 0;
  long below = 1;
  final int[] status = {0, 0, 0};

  private Scene(String name) {
    this.name = name;
  }

  int families() {
    return church.families.length;
  }

  EveryPew make() {
    EveryPew x = new EveryPew();
    if (name.equals("midway")) makeMidway(x);
    if (name.equals("crowded")) makeCrowded(x);
    return x;
  }

  /** Nothing there. */
  static Scene fresh() {
    return new Scene("fresh");
  }

  /** Something of each, nothing full. */
  private static void makeMidway(EveryPew x) {
    x.church(4);
    x.book(0, 32769);
    x.book(1, 2);
    x.family(0, 0, 5, 7, 4);
    x.family(1, 1, 6, 5, 3);
    x.image(1);
    x.family(5, 1, 9, 20, 9);
    x.cold(2, 1);
    x.heard(3, 0, 7);
    x.heard(2, 1, 2);
    x.move(0, 8);
    x.colds(2, 3);
    Bench.type(x, "church 7;book 1 3");
    x.up(16);
    x.up(-1);
    x.from(0);
  }

  static Scene midway() {
    Scene s = new Scene("midway");
    s.church.limit = 4;
    s.church.books = new int[] {32769, 2};
    s.church.families = new int[][] {{0, 0, 5, 7, 8, 0}, {1, 1, 6, 5, 3, 0}, {5, 1, 9, 20, 9, 1}};
    s.church.heard = new int[][] {{3, 0, 7}, {2, 1, 2}};
    s.church.steps = new int[][] {{4, 3, 9, 0}, {4, 3, 9, 4}};
    // Words 0, 15: 0 against 2; 1: 7 against 0; all others 7 against 2.
    s.church.peace = 2;
    s.images[1] = new Told();
    s.images[1].limit = 4;
    s.images[1].books = new int[] {32769, 2};
    s.images[1].families = new int[][] {{0, 0, 5, 7, 4, 0}, {1, 1, 6, 5, 3, 0}};
    s.images[1].peace = 2;
    s.text = "church 7;book 1 3";
    s.rest = ";";
    s.items = 2;
    s.textLimit = 7;
    // Peace at word 2 only without the 7.
    s.above = 3;
    s.below = 10;
    s.status[0] = 2;
    s.status[1] = 1;
    return s;
  }

  private static final int[][] EARLIER = {{0, 0, 40}, {5, 0, 7}, {6, 1, 8}, {7, 0, 9}, {8, 1, 10}};
  private static final int[][] LATER = {{0, 0, 0}, {1, 1, 140}, {15, 0, 20}, {2, 1, 20}, {3, 0, 1}, {4, 1, 2}};
  private static final String LONG_TEXT = "church 5;book 0 1;" + " ".repeat(125) + "book 1;";

  /** All places taken. */
  private static void makeCrowded(EveryPew x) {
    x.church(0);
    x.family(0, 0, 1, 1, 0);
    x.colds(0, 7);
    x.church(30);
    x.book(0, 65535);
    x.book(1, 65535);
    x.image(0);
    int[][] families = {{3, 0, 9, 20, 0}, {3, 1, 1, 20, 1}, {0, 0, 1, 1, 2}, {1, 1, 2, 2, 3}, {2, 0, 3, 3, 4}, {4, 1, 4, 4, 5}, {5, 0, 5, 5, 6}};
    for (int[] f : families) x.family(f[0], f[1], f[2], f[3], f[4]);
    for (int[] h : EARLIER) x.heard(h[0], h[1], h[2]);
    x.move(0, 8);
    x.cold(1, 1);
    x.cold(2, 1);
    x.image(1);
    x.forget();
    for (int[] h : LATER) x.heard(h[0], h[1], h[2]);
    x.move(3, 9);
    x.cold(3, 1);
    x.cold(1, 0);
    x.move(2, 0);
    x.cold(4, 1);
    x.move(5, 3);
    Bench.type(x, LONG_TEXT);
    x.type(32);
    x.heard(0, 0, 0);
    x.family(0, 1, 1, 1, 7);
    x.up(16);
    x.move(0, 8);
  }

  static Scene crowded() {
    Scene s = new Scene("crowded");
    s.church.limit = 30;
    s.church.books = new int[] {65535, 65535};
    s.church.families = new int[][] {{3, 0, 9, 20, 8, 0}, {3, 1, 1, 20, 1, 0}, {0, 0, 1, 1, 0, 1}, {1, 1, 2, 2, 9, 1}, {2, 0, 3, 3, 4, 1}, {4, 1, 4, 4, 3, 0}, {5, 0, 5, 5, 6, 0}};
    s.church.heard = LATER;
    // The first of the nine is gone.
    s.church.steps = new int[][] {
      {8, 1, 2, 3, 4, 5, 6, 0}, {8, 1, 2, 3, 4, 5, 6, 2}, {8, 1, 2, 3, 4, 5, 6, 6}, {8, 1, 2, 9, 4, 5, 6, 6},
      {8, 1, 2, 9, 4, 5, 6, 14}, {8, 1, 2, 9, 4, 5, 6, 12}, {8, 1, 0, 9, 4, 5, 6, 12}, {8, 1, 0, 9, 4, 5, 6, 28}};
    s.images[0] = Told.begun(30);
    s.images[0].books = new int[] {65535, 65535};
    s.images[1] = Told.begun(30);
    s.images[1].books = new int[] {65535, 65535};
    s.images[1].families = new int[][] {{3, 0, 9, 20, 8, 0}, {3, 1, 1, 20, 1, 1}, {0, 0, 1, 1, 2, 1}, {1, 1, 2, 2, 3, 0}, {2, 0, 3, 3, 4, 0}, {4, 1, 4, 4, 5, 0}, {5, 0, 5, 5, 6, 0}};
    s.images[1].heard = EARLIER;
    s.images[1].steps = new int[][] {{0, 1, 2, 3, 4, 5, 6, 0}, {8, 1, 2, 3, 4, 5, 6, 0}, {8, 1, 2, 3, 4, 5, 6, 2}};
    s.text = LONG_TEXT;
    s.rest = "";
    s.items = 3;
    s.textLimit = 5;
    s.above = 7;
    s.below = 10;
    s.status[0] = 1;
    s.status[1] = 1;
    s.status[2] = 3;
    return s;
  }

  /** THE TEXT as one that has been typed anew and can be read. */
  void retyped(String newText, int itsItems, int itsLimit) {
    text = newText;
    rest = "";
    items = itsItems;
    textLimit = itsLimit;
  }

  /** That all is in the object as told. The object is used up by it. */
  void check(EveryPew x, String behind) {
    String here = name + " behind " + behind + ": ";
    for (int i = 0; i < 3; i++) Bench.due(here + "status(" + i + ")", x.status(i), status[i]);
    int[] counts = {families(), church.limit, church.colds(), church.peace, church.heard.length, church.steps.length, text.length()};
    for (int i = 0; i < 7; i++) Bench.due(here + "count(" + i + ")", x.count(i), counts[i]);
    Bench.due(here + "part(0)", x.part(0), above);
    Bench.due(here + "part(1)", x.part(1), below);
    for (int f = 0; f < families(); f++)
      for (int i = 0; i < 6; i++) Bench.due(here + "of(" + f + ", " + i + ")", x.of(f, i), church.families[f][i]);
    Bench.due(here + "digest()", x.digest(), church.digest(text.length(), above, below));
    for (int b = 0; b < 2; b++) Bench.due(here + "book(" + b + ", ..)", x.book(b, church.books[b]), church.books[b]);
    checkSteps(x, church, here);
    checkImages(x, here);
    Bench.type(x, rest);
    Bench.due(here + "read()", x.read(), items);
    Bench.due(here + "count(1) behind read()", x.count(1), textLimit);
  }

  private void checkSteps(EveryPew x, Told t, String here) {
    for (int i = t.steps.length - 1; i >= 0; i--) {
      int n = t.families.length;
      int colds = t.steps[i][n];
      Bench.due(here + "undo()", x.undo(), Integer.bitCount(colds));
      for (int f = 0; f < n; f++) {
        Bench.due(here + "of(" + f + ", 4) behind undo()", x.of(f, 4), t.steps[i][f]);
        Bench.due(here + "of(" + f + ", 5) behind undo()", x.of(f, 5), colds >> f & 1);
      }
    }
    Bench.due(here + "undo() once more", x.undo(), Bench.NO);
  }

  private void checkImages(EveryPew x, String here) {
    for (int i = 0; i < 2; i++) {
      Bench.due(here + "from(" + i + ")", x.from(i), images[i] == null ? Bench.NO : 1);
      if (images[i] == null) continue;
      Bench.due(here + "digest() of image " + i, x.digest(), images[i].digest(text.length(), above, below));
      checkSteps(x, images[i], here + "image " + i + ": ");
    }
  }
}
