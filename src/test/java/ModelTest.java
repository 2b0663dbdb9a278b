import java.util.ArrayList;
import java.util.List;
import java.util.Random;

/** Long runs of calls, drawn by fixed seeds, on EveryPew and on Model side by side. */
public final class ModelTest {
  private static final int RUNS = 3000;
  private static final int CALLS = 512;

  private final Random dice;
  private final EveryPew x = new EveryPew();
  private final Model m = new Model();
  private final List<String> told = new ArrayList<>();
  private final String[] typed = {""};
  private int typedAt = 0;
  private long got;
  private long want;
  private int rounds;

  private ModelTest(long seed) {
    dice = new Random(seed);
  }

  private int from(int least, int most) {
    int chance = dice.nextInt(60);
    if (chance == 0) return least - 1;
    if (chance == 1) return most + 1;
    if (chance == 2) return least;
    if (chance == 3) return most;
    if (chance == 4 && dice.nextInt(4) == 0) return dice.nextBoolean() ? Integer.MIN_VALUE : Integer.MAX_VALUE;
    return least + dice.nextInt(most - least + 1);
  }

  private int family() {
    int n = m.s.families.size();
    return n == 0 ? from(0, 6) : from(0, n - 1);
  }

  private void due(String call, long mine, long models) {
    told.add(call + " = " + mine);
    got = mine;
    want = models;
  }

  /** Mostly churches that can be read; some with a token or a byte out of its place. */
  private String drawText() {
    StringBuilder b = new StringBuilder();
    String[] gaps = {" ", " ", " ", "  ", ""};
    b.append("church").append(gaps[dice.nextInt(5)]).append(from(0, 30)).append(";");
    int families = 0;
    boolean[] taken = new boolean[10];
    int items = dice.nextInt(12);
    for (int i = 0; i < items; i++) {
      int sort = dice.nextInt(5);
      String gap = gaps[dice.nextInt(4)];
      if (sort == 0) {
        b.append("book").append(gaps[dice.nextInt(5)]).append(from(0, 1));
        for (int k = dice.nextInt(5); k > 0; k--) b.append(gap).append(dice.nextInt(12) == 0 ? "0" : "").append(from(0, 15));
      } else if (sort == 1) {
        b.append("cold").append(gap).append(families == 0 ? 0 : from(0, families - 1));
      } else {
        int book = dice.nextInt(2);
        int pew = book + 2 * dice.nextInt(5);
        for (int k = 0; k < 20 && taken[pew]; k++) pew = dice.nextInt(5) * 2 + book;
        if (dice.nextInt(40) == 0) pew = dice.nextInt(11);
        b.append("family").append(gap).append(from(0, 5)).append(gap).append(book).append(gap).append(from(1, 9));
        b.append(gap).append(from(1, 20)).append(gap).append(pew);
        if (pew >= 0 && pew < 10) taken[pew] = true;
        families++;
      }
      b.append(dice.nextInt(30) == 0 ? " ; " : ";");
    }
    for (int k = dice.nextInt(3) == 0 ? 1 + dice.nextInt(2) : 0; k > 0; k--) spoil(b);
    return b.toString();
  }

  private void spoil(StringBuilder b) {
    String bytes = "abcz059; ;ch-AZ{`:/\n\t\u0000\u007f";
    int place = dice.nextInt(b.length());
    String[] words = {"church", "book", "family", "cold", "7", "123", ";", "churc", "booky", " "};
    switch (dice.nextInt(5)) {
      case 0: b.setCharAt(place, bytes.charAt(dice.nextInt(bytes.length()))); break;
      case 1: b.insert(place, bytes.charAt(dice.nextInt(bytes.length()))); break;
      case 2: b.deleteCharAt(place); if (b.length() == 0) b.append(' '); break;
      case 3: b.setLength(place + 1); break;
      default: b.insert(place, words[dice.nextInt(words.length)]); break;
    }
  }

  private void typeOn() {
    int c = typed[0].charAt(typedAt++);
    if (typedAt == typed[0].length() && m.text.length() < 149) {
      due("type(" + c + ")", x.type(c), m.type(c));
      if (got == want) due("read()", x.read(), m.read());
      typed[0] = "";
      return;
    }
    due("type(" + c + ")", x.type(c), m.type(c));
    if (typedAt >= typed[0].length()) typed[0] = "";
  }

  private void step() {
    if (!typed[0].isEmpty()) {
      typeOn();
      return;
    }
    int pick = dice.nextInt(46);
    if (pick < 12) tell(pick);
    else if (pick < 34) ask(pick);
    else rest(pick);
  }

  private void tell(int pick) {
    int a, b, c, d, e;
    switch (pick) {
      case 0:
        if (dice.nextInt(6) == 0) { a = from(0, 30); due("church(" + a + ")", x.church(a), m.church(a)); }
        else due("digest()", x.digest(), m.digest());
        break;
      case 1:
        a = from(0, 1);
        b = dice.nextInt(4) == 0 ? from(0, 65535) : dice.nextInt(65536) & dice.nextInt(65536);
        due("book(" + a + ", " + b + ")", x.book(a, b), m.book(a, b));
        break;
      case 2: case 3: case 4:
        a = from(0, 5); b = from(0, 1); c = from(1, 9); d = from(1, 20);
        e = dice.nextInt(10) == 0 ? from(0, 9) : (b & 1) + 2 * dice.nextInt(5);
        due("family(" + a + ", " + b + ", " + c + ", " + d + ", " + e + ")", x.family(a, b, c, d, e), m.family(a, b, c, d, e));
        break;
      case 5:
        if (dice.nextInt(12) == 0) {
          due("clear()", x.clear(), m.clear());
          typed[0] = drawText();
          typedAt = 0;
        } else if (dice.nextInt(6) == 0) {
          a = from(0, 127);
          due("type(" + a + ")", x.type(a), m.type(a));
        } else {
          due("read()", x.read(), m.read());
        }
        break;
      case 6: case 7:
        a = family(); b = from(0, 9);
        due("move(" + a + ", " + b + ")", x.move(a, b), m.move(a, b));
        break;
      case 8: case 9:
        a = family(); b = from(0, 1);
        due("cold(" + a + ", " + b + ")", x.cold(a, b), m.cold(a, b));
        break;
      default:
        due("undo()", x.undo(), m.undo());
        break;
    }
  }

  private void ask(int pick) {
    int a, b, c;
    switch (pick) {
      case 12: a = family(); b = from(0, 5); due("of(" + a + ", " + b + ")", x.of(a, b), m.of(a, b)); break;
      case 13: case 14:
        a = family(); b = from(0, 15); c = from(0, 3);
        due("at(" + a + ", " + b + ", " + c + ")", x.at(a, b, c), m.at(a, b, c));
        break;
      case 15: a = from(0, 15); due("up(" + a + ")", x.up(a), m.up(a)); break;
      case 16: case 17: a = from(0, 15); due("seers(" + a + ")", x.seers(a), m.seers(a)); break;
      case 18: case 19: a = from(0, 15); b = from(0, 1); due("loud(" + a + ", " + b + ")", x.loud(a, b), m.loud(a, b)); break;
      case 20: case 21: a = from(0, 15); due("breach(" + a + ")", x.breach(a), m.breach(a)); break;
      case 22: due("canNot()", x.canNot(), m.canNot()); break;
      case 23:
        if (rounds++ % 3 != 0 && m.s.families.size() > 5) { due("digest()", x.digest(), m.digest()); break; }
        a = dice.nextInt(3) == 0 ? -1 : family();
        due("seats(" + a + ")", x.seats(a), m.seats(a));
        break;
      case 24: case 25: case 26: a = from(0, 1); due("change(" + a + ")", x.change(a), m.change(a)); break;
      case 27: case 28: due("still()", x.still(), m.still()); break;
      case 29: case 30: hear(); break;
      case 31: due("coughed(0)", x.coughed(0), m.coughed(0)); break;
      case 32: a = from(0, 2); due("coughed(" + a + ")", x.coughed(a), m.coughed(a)); break;
      default: due("next()", x.next(), m.next()); break;
    }
  }

  /** Mostly what some set of colds would make heard, so that sets are left. */
  private void hear() {
    int w = from(0, 15), b = from(0, 1), n = from(0, 140);
    if (w >= 0 && w < 16 && b >= 0 && b < 2 && dice.nextInt(8) != 0) {
      boolean[] old = m.coldsNow();
      if (dice.nextInt(3) != 0) m.setColds(dice.nextInt(1 << old.length));
      n = m.loudness(w, b);
      m.setColds(old);
    }
    due("heard(" + w + ", " + b + ", " + n + ")", x.heard(w, b, n), m.heard(w, b, n));
  }

  private void rest(int pick) {
    int a, b, c, d;
    switch (pick) {
      case 34: case 35: a = family(); due("is(" + a + ")", x.is(a), m.is(a)); break;
      case 36: a = from(0, 15); due("deacons(" + a + ")", x.deacons(a), m.deacons(a)); break;
      case 37:
        a = from(1, 40); b = from(0, 99); c = from(1, 40); d = from(0, 99);
        due("feasts(" + a + ", " + b + ", " + c + ", " + d + ")", x.feasts(a, b, c, d), m.feasts(a, b, c, d));
        break;
      case 38: a = from(0, 15); b = from(0, 10); due("colds(" + a + ", " + b + ")", x.colds(a, b), m.colds(a, b)); break;
      case 39: a = from(0, 1); due("part(" + a + ")", x.part(a), m.part(a)); break;
      case 40: a = from(0, 999999); b = from(0, 60); due("sundays(" + a + ", " + b + ")", x.sundays(a, b), m.sundays(a, b)); break;
      case 41: a = from(0, 1); due("image(" + a + ")", x.image(a), m.image(a)); break;
      case 42: a = from(0, 1); due("from(" + a + ")", x.from(a), m.from(a)); break;
      case 43: a = from(0, 2); due("status(" + a + ")", x.status(a), m.status(a)); break;
      case 44: a = from(0, 6); due("count(" + a + ")", x.count(a), m.count(a)); break;
      default:
        if (dice.nextInt(4) == 0) due("forget()", x.forget(), m.forget());
        else due("digest()", x.digest(), m.digest());
        break;
    }
  }

  private boolean run() {
    for (int i = 0; i < CALLS; i++) {
      step();
      if (got != want) {
        System.out.println("answered " + got + ", due is " + want + ", behind:");
        for (String call : told) System.out.println("  " + call);
        return false;
      }
    }
    return true;
  }

  public static void main(String[] args) {
    int right = 0;
    for (int seed = 0; seed < RUNS; seed++) {
      if (!new ModelTest(seed).run()) {
        System.out.println("seed " + seed + " went wrong");
        System.exit(1);
      }
      right++;
    }
    System.out.println(right + " runs of " + CALLS + " calls as the model");
  }
}
