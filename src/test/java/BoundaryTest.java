/**
 * The document's boundary cases, sentence by sentence: the last value taken and the first refused on each side, nothing
 * there and all places taken, what wraps around; of each refused call its answer, what STATUS counts of it, and that
 * nothing else has changed. Each test names its promise and quotes the words by which its answers are due.
 */
public final class BoundaryTest {
  public static void main(String[] args) {
    ChurchEdges.all();
    TextEdges.all();
    PewEdges.all();
    ServiceEdges.all();
    CoughEdges.all();
    RestEdges.all();
    Bench.nothingIsLeftOut();
    Bench.end();
  }
}
