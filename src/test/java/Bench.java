import java.util.List;
import java.util.function.Supplier;

/** What the tests of the edges share: each quotes the document's words that it is about, and names its promise. */
final class Bench {
  static final int NONE = -1, BAD = -2, NO = -3, FULL = -4;
  private static final String[] REASONS = {"BAD", "NO", "FULL"};
  static final List<Supplier<Scene>> SCENES = List.of(Scene::fresh, Scene::midway, Scene::crowded);

  interface Call {
    long on(EveryPew x);
  }

  private static final Document DOCUMENT = new Document();
  private static final int[] testsOf = new int[Document.PROMISES + 1];
  private static final boolean[][] refusedOf = new boolean[Document.PROMISES + 1][3];
  private static final boolean[] noneOf = new boolean[Document.PROMISES + 1];
  private static int promise;
  private static String words = "";
  private static int tests;
  private static int checks;
  private static int checksBefore;
  private static int wrong;

  private Bench() {}

  /** Begins a test: all that follows is due by these words of the document. */
  static void about(int itsPromise, String itsWords) {
    if (tests > 0 && checks == checksBefore) fail("quoted, but nothing was looked at");
    checksBefore = checks;
    promise = itsPromise;
    words = itsWords;
    tests++;
    testsOf[promise]++;
    if (!DOCUMENT.quote(promise, words)) fail("the document does not say so, or says it twice");
  }

  private static void fail(String what) {
    wrong++;
    System.out.println("promise " + promise + ", \"" + words + "\": " + what);
  }

  static void due(String call, long got, long want) {
    checks++;
    if (want == NONE) noneOf[promise] = true;
    if (got != want) fail(call + " answered " + got + ", due is " + want);
  }

  /** A refused call: its answer, what STATUS counts of it, and that nothing else has changed. */
  static void refused(Supplier<Scene> of, String call, Call c, long answer, int reason) {
    Scene scene = of.get();
    EveryPew x = scene.make();
    due(scene.name + ": " + call, c.on(x), answer);
    scene.status[-2 - reason]++;
    refusedOf[promise][-2 - reason] = true;
    scene.check(x, call);
  }

  static void refused(Supplier<Scene> of, String call, Call c, int reason) {
    refused(of, call, c, reason, reason);
  }

  /** Refused as BAD whatever there is. */
  static void bad(String call, Call c) {
    for (Supplier<Scene> of : SCENES) refused(of, call, c, BAD);
  }

  /** A call that is answered and changes nothing, STATUS neither. */
  static void asks(Supplier<Scene> of, String call, Call c, long answer) {
    Scene scene = of.get();
    EveryPew x = scene.make();
    due(scene.name + ": " + call, c.on(x), answer);
    scene.check(x, call);
  }

  /** The first that are refused on each side, and the farthest. */
  static int[] outside(int least, int most) {
    return new int[] {least - 1, most + 1, Integer.MIN_VALUE, Integer.MAX_VALUE};
  }

  static void type(EveryPew x, String text) {
    for (int i = 0; i < text.length(); i++) x.type(text.charAt(i));
  }

  /** That each promise has tests, each way in which it refuses one, and that no word of the document is left out. */
  static void nothingIsLeftOut() {
    for (promise = 1; promise <= Document.PROMISES; promise++) {
      words = DOCUMENT.promise(promise);
      if (testsOf[promise] == 0) fail("has no test");
      for (int i = 0; i < 3; i++) {
        boolean told = words.matches(".*\\b" + REASONS[i] + "\\b.*") && !(promise == 33 && i > 0);
        if (told != refusedOf[promise][i]) fail(told ? "no call was refused as " + REASONS[i] : "refuses none as " + REASONS[i]);
      }
      if (words.contains(". NONE.") && promise != 20 && !noneOf[promise]) fail("NONE was never due");
    }
    for (String rest : DOCUMENT.unquoted()) {
      wrong++;
      System.out.println("no test quotes " + rest);
    }
  }

  static void end() {
    System.out.println(tests + " tests of edges, " + (checks - wrong) + " of " + checks + " answers as due");
    if (wrong > 0) System.exit(1);
  }
}
