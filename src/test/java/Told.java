import java.math.BigInteger;
import java.util.ArrayList;
import java.util.List;

/** All that an IMAGE keeps, as a test knows it by the calls that it made: written out, never asked of the class. */
final class Told {
  int limit = 9;
  int[] books = {0, 0};
  /** KIND, BOOK, TALL, VOICES, PEW, COLD. */
  int[][] families = {};
  /** WORD, BOOK, n. */
  int[][] heard = {};
  /** What may be undone, the oldest first: the PEW of each FAMILY, then the COLDS as bits. */
  int[][] steps = {};
  int peace = 16;

  static Told begun(int limit) {
    Told t = new Told();
    t.limit = limit;
    return t;
  }

  int colds() {
    int n = 0;
    for (int[] family : families) n += family[5];
    return n;
  }

  /** The document's sum without any end to its numbers; then what is left of it in 64 bits. */
  BigInteger sum(int bytes, long above, long below) {
    List<Long> all = new ArrayList<>();
    for (int v : new int[] {families.length, limit, colds(), peace, heard.length, steps.length, bytes}) all.add((long) v);
    for (int v : books) all.add((long) v);
    for (int[] family : families) for (int v : family) all.add((long) v);
    for (int[] row : heard) for (int v : row) all.add((long) v);
    all.add(above);
    all.add(below);
    BigInteger h = BigInteger.valueOf(1171);
    for (long v : all) h = h.multiply(BigInteger.valueOf(31)).add(BigInteger.valueOf(v));
    return h;
  }

  long digest(int bytes, long above, long below) {
    return sum(bytes, above, below).longValue();
  }
}
