import java.math.BigInteger;
import java.util.ArrayList;
import java.util.HashMap;
import java.util.List;
import java.util.Map;
import java.util.regex.Matcher;
import java.util.regex.Pattern;

/** The document once more, slow and word by word, to hold EveryPew against. It shares no way of working with it. */
final class Model {
  static final class Family {
    int kind, book, tall, voices, pew;
    boolean cold;

    Family copy() {
      Family f = new Family();
      f.kind = kind;
      f.book = book;
      f.tall = tall;
      f.voices = voices;
      f.pew = pew;
      f.cold = cold;
      return f;
    }
  }

  static final class State {
    int limit = 9;
    int[] books = {0, 0};
    List<Family> families = new ArrayList<>();
    List<int[]> heard = new ArrayList<>();
    List<List<int[]>> undo = new ArrayList<>();

    State copy() {
      State s = new State();
      s.limit = limit;
      s.books = books.clone();
      for (Family f : families) s.families.add(f.copy());
      s.heard.addAll(heard);
      s.undo.addAll(undo);
      return s;
    }
  }

  State s = new State();
  final State[] images = new State[2];
  final StringBuilder text = new StringBuilder();
  BigInteger above = BigInteger.ZERO, below = BigInteger.ONE;
  final int[] refused = new int[3];

  private int bad() { refused[0]++; return -2; }
  private int no() { refused[1]++; return -3; }
  private int full() { refused[2]++; return -4; }
  private static boolean in(int x, int a, int b) { return a <= x && x <= b; }
  private boolean fam(int f) { return f >= 0 && f < s.families.size(); }

  boolean bookKneels(int b, int w) { return (s.books[b] >> w & 1) != 0; }

  boolean kneels(Family f, int w) {
    boolean o = bookKneels(f.book, w), t = bookKneels(1 - f.book, w);
    if (f.kind == 2) return o | t;
    if (f.kind == 3) return false;
    if (f.kind == 5) return o & t;
    return o;
  }

  int height(Family f, int w) {
    int h = kneels(f, w) ? f.tall / 2 : f.tall;
    if (f.kind == 3) h = h + 1;
    if (f.kind == 4) h = h < 2 ? 0 : h - 2;
    return h;
  }

  int voices(Family f, int w) {
    if (f.cold || kneels(f, w)) return 0;
    if (f.kind == 1 || f.kind == 4) return f.voices / 2;
    if (f.kind == 5) return f.voices - 1;
    return f.voices;
  }

  boolean sees(Family f, int w) {
    return s.families.stream().noneMatch(g -> g.pew < f.pew && height(g, w) >= height(f, w));
  }

  int loudness(int w, int b) {
    int n = 0;
    for (Family f : s.families) if (f.book == b) n += voices(f, w);
    return n;
  }

  boolean peace(int w) {
    int x = loudness(w, 0), y = loudness(w, 1);
    return !(x > y + s.limit) && !(y > x + s.limit);
  }

  int peaces() {
    int n = 0;
    for (int w = 0; w < 16; w++) if (peace(w)) n++;
    return n;
  }

  boolean[] coldsNow() {
    boolean[] c = new boolean[s.families.size()];
    for (int i = 0; i < c.length; i++) c[i] = s.families.get(i).cold;
    return c;
  }

  void setColds(boolean[] c) {
    for (int i = 0; i < c.length; i++) s.families.get(i).cold = c[i];
  }

  void setColds(int set) {
    for (int i = 0; i < s.families.size(); i++) s.families.get(i).cold = (set >> i & 1) != 0;
  }

  int church(int limit) {
    if (!in(limit, 0, 30)) return bad();
    int n = s.families.size();
    s = new State();
    s.limit = limit;
    return n;
  }

  int book(int b, int words) {
    if (!in(b, 0, 1) || !in(words, 0, 65535)) return bad();
    int was = s.books[b];
    s.books[b] = words;
    return was;
  }

  int family(int kind, int b, int tall, int voices, int pew) {
    if (!in(kind, 0, 5) || !in(b, 0, 1) || !in(tall, 1, 9) || !in(voices, 1, 20) || !in(pew, 0, 9)) return bad();
    if ((pew & 1) != b) return bad();
    for (Family f : s.families) if (f.pew == pew) return no();
    if (s.families.size() == 7) return full();
    Family f = new Family();
    f.kind = kind;
    f.book = b;
    f.tall = tall;
    f.voices = voices;
    f.pew = pew;
    s.families.add(f);
    s.undo.clear();
    return s.families.size() - 1;
  }

  int type(int c) {
    if (!in(c, 0, 127)) return bad();
    if (text.length() == 150) return full();
    text.append((char) c);
    return text.length();
  }

  int clear() {
    int n = text.length();
    text.setLength(0);
    return n;
  }

  private static final class Fault extends Exception {
    final int place;
    Fault(int place) { this.place = place; }
  }

  private List<String> tokens;
  private List<Integer> places;
  private int cursor;

  private String take() throws Fault {
    if (cursor >= tokens.size()) throw new Fault(text.length());
    return tokens.get(cursor++);
  }

  private Fault here() { return new Fault(places.get(cursor - 1)); }

  private int number(int a, int b) throws Fault {
    String t = take();
    if (!t.matches("[0-9]{1,2}")) throw here();
    int n = Integer.parseInt(t);
    if (!in(n, a, b)) throw here();
    return n;
  }

  private void expect(String what) throws Fault {
    if (!take().equals(what)) throw here();
  }

  int read() {
    tokens = new ArrayList<>();
    places = new ArrayList<>();
    cursor = 0;
    Matcher m = Pattern.compile("[a-z]+|[0-9]+|[^ ]", Pattern.DOTALL).matcher(text);
    while (m.find()) {
      tokens.add(m.group());
      places.add(m.start());
    }
    State before = s;
    try {
      expect("church");
      s = new State();
      s.limit = number(0, 30);
      expect(";");
      int items = 1;
      while (cursor < tokens.size()) {
        item();
        items++;
      }
      s.undo.clear();
      return items;
    } catch (Fault f) {
      s = before;
      return -10 - f.place;
    }
  }

  private void item() throws Fault {
    String word = take();
    if (word.equals("book")) {
      int b = number(0, 1);
      int bits = 0;
      while (cursor < tokens.size() && Character.isDigit(tokens.get(cursor).charAt(0))) bits |= 1 << number(0, 15);
      s.books[b] = bits;
      expect(";");
    } else if (word.equals("family")) {
      if (s.families.size() == 7) throw here();
      Family f = new Family();
      f.kind = number(0, 5);
      f.book = number(0, 1);
      f.tall = number(1, 9);
      f.voices = number(1, 20);
      f.pew = number(0, 9);
      if (f.pew % 2 != f.book) throw here();
      for (Family g : s.families) if (g.pew == f.pew) throw here();
      s.families.add(f);
      expect(";");
    } else if (word.equals("cold")) {
      s.families.get(number(0, s.families.size() - 1)).cold = true;
      expect(";");
    } else {
      throw here();
    }
  }

  private void remember() {
    List<int[]> all = new ArrayList<>();
    for (Family f : s.families) all.add(new int[] {f.pew, f.cold ? 1 : 0});
    s.undo.add(all);
    if (s.undo.size() > 8) s.undo.remove(0);
  }

  int move(int f, int pew) {
    if (!fam(f) || !in(pew, 0, 9)) return bad();
    Family it = s.families.get(f);
    if (pew % 2 != it.book) return bad();
    for (Family g : s.families) if (g.pew == pew) return no();
    remember();
    int was = it.pew;
    it.pew = pew;
    return was;
  }

  int cold(int f, int is) {
    if (!fam(f) || !in(is, 0, 1)) return bad();
    remember();
    Family it = s.families.get(f);
    int was = it.cold ? 1 : 0;
    it.cold = is == 1;
    return was;
  }

  int countColds() {
    int n = 0;
    for (Family f : s.families) if (f.cold) n++;
    return n;
  }

  int undo() {
    if (s.undo.isEmpty()) return no();
    List<int[]> all = s.undo.remove(s.undo.size() - 1);
    for (int i = 0; i < all.size(); i++) {
      s.families.get(i).pew = all.get(i)[0];
      s.families.get(i).cold = all.get(i)[1] == 1;
    }
    return countColds();
  }

  int of(int f, int what) {
    if (!fam(f) || !in(what, 0, 5)) return bad();
    Family x = s.families.get(f);
    return new int[] {x.kind, x.book, x.tall, x.voices, x.pew, x.cold ? 1 : 0}[what];
  }

  int at(int f, int w, int what) {
    if (!fam(f) || !in(w, 0, 15) || !in(what, 0, 3)) return bad();
    Family x = s.families.get(f);
    return new int[] {kneels(x, w) ? 1 : 0, height(x, w), voices(x, w), sees(x, w) ? 1 : 0}[what];
  }

  int up(int w) {
    if (!in(w, 0, 15)) return bad();
    int bits = 0;
    for (int i = 0; i < s.families.size(); i++) if (!kneels(s.families.get(i), w)) bits += 1 << i;
    return bits;
  }

  int seers(int w) {
    if (!in(w, 0, 15)) return bad();
    int bits = 0;
    for (int i = 0; i < s.families.size(); i++) if (sees(s.families.get(i), w)) bits += 1 << i;
    return bits;
  }

  int loud(int w, int b) {
    if (!in(w, 0, 15) || !in(b, 0, 1)) return bad();
    return loudness(w, b);
  }

  int breach(int w) {
    if (!in(w, 0, 15)) return bad();
    while (w < 16 && peace(w)) w++;
    return w < 16 ? w : -1;
  }

  int canNot() {
    int bits = 0;
    for (int w = 0; w < 16; w++) if (bookKneels(0, w) != bookKneels(1, w)) bits += 1 << w;
    return bits;
  }

  private int bestSeen;
  private int[] bestWay;

  /** All ways in rising order, so the first of the best is met first. */
  private void trySeats(int f, int[] way, int[][] heights) {
    int n = way.length;
    if (f == n) {
      int seen = 0;
      for (int w = 0; w < 16; w++)
        for (int i = 0; i < n; i++) {
          boolean sees = true;
          for (int j = 0; j < n && sees; j++) sees = way[j] >= way[i] || heights[j][w] < heights[i][w];
          if (sees) seen++;
        }
      if (seen > bestSeen) {
        bestSeen = seen;
        bestWay = way.clone();
      }
      return;
    }
    for (int pew = s.families.get(f).book; pew < 10; pew += 2) {
      boolean free = true;
      for (int j = 0; j < f; j++) if (way[j] == pew) free = false;
      if (!free) continue;
      way[f] = pew;
      trySeats(f + 1, way, heights);
    }
  }

  int seats(int f) {
    if (f != -1 && !fam(f)) { bad(); return -10; }
    bestSeen = -1;
    int[][] heights = new int[s.families.size()][16];
    for (int i = 0; i < heights.length; i++) for (int w = 0; w < 16; w++) heights[i][w] = height(s.families.get(i), w);
    trySeats(0, new int[s.families.size()], heights);
    return f == -1 ? bestSeen : bestWay[f];
  }

  int change(int what) {
    if (!in(what, 0, 1)) return bad();
    int who = 7, most = peaces();
    for (int i = 0; i < s.families.size(); i++) {
      Family f = s.families.get(i);
      f.book = 1 - f.book;
      int n = peaces();
      f.book = 1 - f.book;
      if (n > most) { most = n; who = i; }
    }
    return what == 0 ? who : most;
  }

  int still() {
    boolean[] old = coldsNow();
    int n = s.families.size();
    int found = -1;
    for (int size = 0; size <= n && found < 0; size++)
      for (int set = 0; set < 1 << n && found < 0; set++) {
        if (Integer.bitCount(set) != size) continue;
        boolean besides = true;
        boolean[] c = old.clone();
        for (int i = 0; i < n; i++) if ((set >> i & 1) != 0) { besides &= !old[i]; c[i] = true; }
        if (!besides) continue;
        setColds(c);
        if (peaces() == 16) found = set;
      }
    setColds(old);
    return found;
  }

  int heard(int w, int b, int n) {
    if (!in(w, 0, 15) || !in(b, 0, 1) || !in(n, 0, 140)) return bad();
    if (s.heard.size() == 6) return full();
    s.heard.add(new int[] {w, b, n});
    return s.heard.size();
  }

  int forget() {
    int n = s.heard.size();
    s.heard.clear();
    return n;
  }

  private boolean allHeardSo() {
    for (int[] h : s.heard) if (loudness(h[0], h[1]) != h[2]) return false;
    return true;
  }

  private List<Integer> coughSets() {
    boolean[] old = coldsNow();
    List<Integer> sets = new ArrayList<>();
    for (int set = 0; set < 1 << old.length; set++) {
      setColds(set);
      if (allHeardSo()) sets.add(set);
    }
    setColds(old);
    return sets;
  }

  int coughed(int what) {
    if (!in(what, 0, 2)) return bad();
    List<Integer> sets = coughSets();
    if (what == 0) return sets.size();
    int all = ~0, some = 0;
    for (int set : sets) { all &= set; some |= set; }
    if (what == 2) return some;
    return sets.isEmpty() ? -1 : all;
  }

  int next() {
    List<Integer> sets = coughSets();
    if (sets.isEmpty()) return -1;
    boolean[] old = coldsNow();
    int best = -1, fewest = Integer.MAX_VALUE;
    for (int w = 0; w < 16; w++) {
      Map<Integer, Integer> groups = new HashMap<>();
      for (int set : sets) {
        setColds(set);
        groups.merge(loudness(w, 0), 1, Integer::sum);
      }
      int most = 0;
      for (int g : groups.values()) most = Math.max(most, g);
      if (most < fewest) { fewest = most; best = w; }
    }
    setColds(old);
    return best;
  }

  int is(int f) {
    if (!fam(f)) return bad();
    Family x = s.families.get(f);
    int was = x.kind, bits = 0;
    for (x.kind = 0; x.kind < 6; x.kind++) if (allHeardSo()) bits += 1 << x.kind;
    x.kind = was;
    return bits;
  }

  private int lead(int w, boolean still0, boolean still1) {
    boolean[] old = coldsNow();
    for (int b = 0; b < 2; b++) {
      if (!(b == 0 ? still0 : still1)) continue;
      Family most = null;
      for (Family f : s.families) if (f.book == b && (most == null || f.voices > most.voices)) most = f;
      if (most != null) most.cold = true;
    }
    int lead = loudness(w, 0) - loudness(w, 1);
    setColds(old);
    return lead;
  }

  int deacons(int w) {
    if (!in(w, 0, 15)) return bad();
    int bits = 0;
    for (int p = 0; p < 4; p++) {
      boolean a = p % 2 == 1, b = p / 2 == 1;
      int zero = lead(w, a, b), one = -lead(w, a, b);
      if (lead(w, !a, b) > zero || -lead(w, a, !b) > one) continue;
      bits += 1 << p;
    }
    return bits;
  }

  int feasts(int a, int b, int c, int d) {
    if (!in(a, 1, 40) || !in(c, 1, 40) || !in(b, 0, 99) || !in(d, 0, 99)) return bad();
    for (int y = 0; y < 10000; y++) if (y >= b && y >= d && (y - b) % a == 0 && (y - d) % c == 0) return y;
    return -1;
  }

  int colds(int w, int c) {
    if (!in(w, 0, 15) || !in(c, 0, 10)) return bad();
    boolean[] old = coldsNow();
    long sum = chance(0, w, c);
    long whole = 1;
    for (boolean cold : old) if (!cold) whole *= 10;
    setColds(old);
    BigInteger g = BigInteger.valueOf(sum).gcd(BigInteger.valueOf(whole));
    above = BigInteger.valueOf(sum).divide(g);
    below = BigInteger.valueOf(whole).divide(g);
    return 1;
  }

  private long chance(int i, int w, int c) {
    if (i == s.families.size()) return peace(w) ? 1 : 0;
    Family f = s.families.get(i);
    if (f.cold) return chance(i + 1, w, c);
    long without = chance(i + 1, w, c);
    f.cold = true;
    long with = chance(i + 1, w, c);
    f.cold = false;
    return with * c + without * (10 - c);
  }

  int sundays(int seed, int n) {
    if (!in(seed, 0, 999999) || !in(n, 0, 60)) return bad();
    boolean[] old = coldsNow();
    BigInteger x = BigInteger.valueOf(seed);
    int good = 0;
    for (int i = 0; i < n; i++) {
      for (Family f : s.families) {
        x = x.multiply(BigInteger.valueOf(1103515245)).add(BigInteger.valueOf(12345)).mod(BigInteger.ONE.shiftLeft(31));
        f.cold = x.shiftRight(16).intValue() % 4 == 0;
      }
      if (peaces() == 16) good++;
    }
    setColds(old);
    return good;
  }

  long part(int what) {
    if (!in(what, 0, 1)) return bad();
    return (what == 0 ? above : below).longValueExact();
  }

  int image(int i) {
    if (!in(i, 0, 1)) return bad();
    images[i] = s.copy();
    return 1;
  }

  int from(int i) {
    if (!in(i, 0, 1)) return bad();
    if (images[i] == null) return no();
    s = images[i].copy();
    return 1;
  }

  int status(int what) {
    if (!in(what, 0, 2)) { bad(); return -1; }
    return refused[what];
  }

  int count(int what) {
    switch (what) {
      case 0: return s.families.size();
      case 1: return s.limit;
      case 2: return countColds();
      case 3: return peaces();
      case 4: return s.heard.size();
      case 5: return s.undo.size();
      case 6: return text.length();
      default: return bad();
    }
  }

  long digest() {
    List<Long> all = new ArrayList<>();
    for (int i = 0; i < 7; i++) all.add((long) count(i));
    all.add((long) s.books[0]);
    all.add((long) s.books[1]);
    for (int f = 0; f < s.families.size(); f++) for (int i = 0; i < 6; i++) all.add((long) of(f, i));
    for (int[] h : s.heard) for (int v : h) all.add((long) v);
    all.add(above.longValueExact());
    all.add(below.longValueExact());
    long h = 1171;
    for (long v : all) h = h * 31 + v;
    return h;
  }
}
