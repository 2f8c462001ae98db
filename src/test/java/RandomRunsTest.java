import java.util.Random;

/** Long random runs of calls, each answered by the class and by the Model. */
public final class RandomRunsTest {
  private static final int RUNS = 5000;
  /** An object is promised to answer 512 calls; so many are made before the last one, which may be a whole board, and a look. */
  private static final int MOST = 512, CALLS = 340, EARLY = 200, LOOK = 138;
  private static final Check check = new Check("random runs");

  public static void main(String[] args) {
    int runs = args.length > 0 ? Integer.parseInt(args[0]) : RUNS;
    long from = args.length > 1 ? Long.parseLong(args[1]) : 0;
    for (long run = from; run < from + runs && check.wrong() < 20; run++) new Run(run).play();
    check.end();
  }

  private static final class Run {
    final long number;
    final Random random;
    final HaltRing x = new HaltRing();
    final Model m = new Model();
    /** How likely an argument is drawn from beside its range, in percent. */
    final int wild;
    /** Whether the run often goes back to its beginning, where more is still open than after many ticks. */
    final boolean fresh;
    int calls = 0;

    Run(long number) {
      this.number = number;
      random = new Random(number * 7919 + 17);
      wild = random.nextInt(3) == 0 ? 6 : 1;
      fresh = random.nextInt(2) == 0;
    }

    void due(String call, long got, long want) {
      calls++;
      check.due("run " + number + ": " + call, got, want);
    }

    int below(int n) { return random.nextInt(n); }

    /** A number from low to high, seldom one beside. */
    int in(int low, int high) {
      if (below(100) < wild) {
        int[] beside = {low - 1, high + 1, -1, Integer.MIN_VALUE, Integer.MAX_VALUE, high + 7, 1000, -1000};
        return beside[below(beside.length)];
      }
      return low + below(high - low + 1);
    }

    void play() {
      if (below(12) != 0) board(text(below(10) == 0));
      due("keep", x.keep(0), m.keep(0));
      while (calls < CALLS) {
        call(below(100));
        if (fresh && below(12) == 0) due("again", x.again(0), m.again(0));
        if (calls < EARLY && below(60) == 0) look();
      }
      if (calls <= MOST - LOOK) look();
    }

    void board(String text) {
      due("wipe", x.wipe(), m.wipe());
      for (int i = 0; i < text.length(); i++) due("write", x.write(text.charAt(i)), m.write(text.charAt(i)));
      due("fault of " + text, x.fault(), m.fault());
      due("board of " + text, x.board(), m.board());
    }

    String text(boolean broken) {
      StringBuilder s = new StringBuilder("R");
      int size = broken ? below(30) : 5 + below(26);
      int ins = 0, harts = 0, trigs = 0;
      for (int i = 0; i < size; i++) {
        int kind = below(10);
        if (kind < 5 && (ins < 16 || broken)) { ins++; s.append(instruction()); }
        else if (kind < 7 && (harts < 4 || broken)) { harts++; s.append('h').append(letter(16)).append(digit(3)); }
        else if (kind >= 7 && (harts > 0 && trigs < 6 || broken)) { trigs++; s.append(trigger(Math.max(1, harts))); }
      }
      if (broken) {
        for (int i = 0; i < 1 + below(2); i++) {
          int at = below(s.length());
          if (below(3) == 0) s.setLength(at);
          else s.setCharAt(at, below(2) == 0 ? (char) below(256) : "Rihtpqab019T".charAt(below(12)));
          if (s.length() == 0) s.append('R');
        }
      }
      s.setLength(Math.min(s.length(), 155));
      return s.toString();
    }

    char letter(int n) { return (char) ('a' + below(n)); }

    char digit(int n) { return (char) ('0' + below(n)); }

    char digitFrom1(int n) { return (char) ('1' + below(n)); }

    String instruction() {
      switch (below(11)) {
        case 0: case 1: return "ia" + digit(3) + digit(4);
        case 2: return "id" + digit(3);
        case 3: return "ic" + digit(4) + digit(4);
        case 4: return "il" + digit(4) + (below(3) == 0 ? '7' : digit(8));
        case 5: return "iw" + digit(4) + digit(8);
        case 6: return "iw" + digit(4) + '7';
        case 7: case 8: return "ij" + digit(3) + letter(below(2) == 0 ? 5 : 16);
        case 9: return "iz";
        default: return below(3) == 0 ? "ib" : "ia" + digit(4) + digit(10);
      }
    }

    String trigger(int harts) {
      String head = (below(3) == 0 ? "T" : "t") + digit(harts);
      char count = digitFrom1(below(2) == 0 ? 3 : 9);
      if (fresh && below(2) == 0) return head + "p" + letter(5) + digitFrom1(2);
      if (fresh && below(2) == 0) return head + "q" + digit(3) + "00" + digit(4) + digitFrom1(3);
      if (below(2) == 0) return head + "p" + letter(below(2) == 0 ? 6 : 16) + count;
      return head + "q" + digit(4) + (below(3) == 0 ? "" + digit(10) + digit(10) : "00") + digit(10) + count;
    }

    int how() {
      if (below(100) < 5) return below(1200) - 100;
      int code = below(9);
      int r = below(4);
      switch (code) {
        case 1: return 100 + r * 10 + below(10);
        case 2: return 200 + r * 10;
        case 3: return 300 + r * 10 + below(4);
        case 4: return 400 + r * 10 + below(8);
        case 5: return 500 + r * 10 + (below(2) == 0 ? 7 : below(8));
        case 6: return 600 + r * 10 + below(10);
        default: return code * 100;
      }
    }

    int harts() { return Math.max(1, m.count(2)); }

    int hart() { return in(0, harts() - 1); }

    int trig() { return in(0, Math.max(1, m.count(3)) - 1); }

    int value() { return below(3) == 0 ? in(0, 999) : in(0, 9); }

    void call(int kind) {
      if (kind < 14) { int n = !fresh && below(3) == 0 ? in(1, 99) : in(1, 4); due("tick " + n, x.tick(n), m.tick(n)); }
      else if (kind < 36) send();
      else if (kind < 42) set();
      else if (kind < 47) { int at = in(0, 1), how = how(); due("buffer " + at + " " + how, x.buffer(at, how), m.buffer(at, how)); }
      else if (kind < 50) due("clear", x.clear(), m.clear());
      else if (kind < 53) { int c = in(0, 7), v = value(); due("poke", x.poke(c, v), m.poke(c, v)); }
      else if (kind < 57) for (int i = below(below(4) == 0 ? 16 : 2); i >= 0; i--) due("undo", x.undo(), m.undo());
      else if (kind < 61) { int n = in(0, 99), h = hart(), w = in(0, 9); due("ahead " + n + " " + h + " " + w, x.ahead(n, h, w), m.ahead(n, h, w)); }
      else if (kind < 64) { int h = hart(); due("halts " + h, x.halts(h), m.halts(h)); }
      else if (kind < 66) { int t = trig(); due("soonest " + t, x.soonest(t), m.soonest(t)); }
      else if (kind < 69) { int set = in(0, (1 << m.count(2)) - 1); due("all " + set, x.all(set), m.all(set)); }
      else if (kind < 70) due("crew", x.crew(), m.crew());
      else if (kind < 78) judge();
      else if (kind < 82) { int n = in(0, 9), w = in(0, 2), v = w == 2 ? value() : in(0, w == 0 ? below(2) == 0 ? 5 : 15 : 2); due("see", x.see(n, w, v), m.see(n, w, v)); }
      else if (kind < 83) due("unsee", x.unsee(), m.unsee());
      else if (kind < 85) due("which", x.which(), m.which());
      else if (kind < 87) { if (fresh || below(3) == 0) share(); }
      else if (kind < 89) lost();
      else if (kind < 90) { long v = random.nextLong(); due("seed", x.seed(v), m.seed(v)); }
      else if (kind < 93) { int n = in(1, 20); due("drawn " + n, x.drawn(n), m.drawn(n)); }
      else if (kind < 95) { int s = in(0, 1); due("keep", x.keep(s), m.keep(s)); }
      else if (kind < 96) { int s = in(0, 1); due("again", x.again(s), m.again(s)); }
      else if (kind < 97) { if (below(8) == 0) board(text(below(3) == 0)); }
      else { int what = in(0, 11); due("count " + what, x.count(what), m.count(what)); }
    }

    void send() {
      int order = below(4) == 0 ? in(3, 5) : in(0, 5);
      int h = hart();
      int r = order == 3 || order == 4 ? in(0, 3) : in(0, 0);
      int v = order == 4 ? value() : in(0, 0);
      due("send " + order + " " + h + " " + r + " " + v, x.send(order, h, r, v), m.send(order, h, r, v));
    }

    void set() {
      int t = trig(), kind = in(0, 1);
      int place = in(0, kind == 0 ? 15 : 3), v = kind == 0 ? in(0, 0) : value(), count = in(1, 9);
      boolean chained = random.nextBoolean();
      due("set", x.set(t, kind, place, v, count, chained), m.set(t, kind, place, v, count, chained));
    }

    void share() {
      int t = trig();
      due("share " + t, x.share(t, true), m.share(t, true));
      due("share below " + t, x.share(t, false), m.share(t, false));
    }

    void lost() {
      if (fresh) for (int i = below(8); i > 0; i--) sendPlain(below(2) == 0 ? 0 : below(3), hart());
      int p = in(0, 10);
      due("lost " + p, x.lost(p, true), m.lost(p, true));
      due("lost below " + p, x.lost(p, false), m.lost(p, false));
    }

    void sendPlain(int order, int h) {
      due("send " + order + " " + h, x.send(order, h, 0, 0), m.send(order, h, 0, 0));
    }

    void judge() {
      int n = below(60) == 0 ? in(1, 3) : 1 + below(3);
      long row = 0;
      for (int i = 0; i < Math.min(3, Math.max(1, n)); i++) row = row * 1000000 + statement(i);
      if (below(60) == 0) row = random.nextLong();
      due("judge " + n + " " + row, x.judge(n, row), m.judge(n, row));
    }

    /** A statement that is mostly of the right form; the first ones are mostly performed. */
    int statement(int i) {
      if (below(15) == 0) return below(1000000);
      int h = below(harts());
      int kind = i < 1 || below(3) == 0 ? 1 + below(2) : 3 + below(5);
      int noise = below(20) == 0 ? below(100) : 0;
      switch (kind) {
        case 1: return 100000 + below(below(2) == 0 ? 5 : 100) * 1000 + noise;
        case 2: return 200000 + below(3) * 10000 + h * 1000 + noise;
        case 3: return 300000 + h * 10000 + below(3) * 1000 + noise;
        case 4: { int r = below(4); return 400000 + h * 10000 + r * 1000 + Math.max(0, m.ahead(below(6), h, 4 + r)) + noise / 10; }
        case 5: { int c = below(8); return 500000 + c * 10000 + m.cell(c) + noise / 10; }
        case 6: return 600000 + (below(3) == 0 ? below(10) : m.count(6)) * 10000 + noise;
        default: return 700000 + h * 10000 + Math.max(0, m.ahead(below(6), h, 0)) * 100 + noise / 10;
      }
    }

    /** Compares all that can be seen of the two. */
    void look() {
      for (int h = 0; h < 4; h++) for (int w = 0; w < 10; w++) due("hart " + h + " " + w, x.hart(h, w), m.hart(h, w));
      for (int t = 0; t < 6; t++) for (int w = 0; w < 7; w++) due("trigger " + t + " " + w, x.trigger(t, w), m.trigger(t, w));
      for (int c = 0; c < 8; c++) due("cell " + c, x.cell(c), m.cell(c));
      for (int o = 0; o < 8; o++) for (int w = 0; w < 4; w++) due("order " + o + " " + w, x.order(o, w), m.order(o, w));
      for (int w = 0; w < 12; w++) due("count " + w, x.count(w), m.count(w));
      int h = in(-1, 4), w = in(-1, 11);
      due("hart", x.hart(h, w), m.hart(h, w));
      due("trigger", x.trigger(h, w), m.trigger(h, w));
      due("order", x.order(h, w), m.order(h, w));
      due("cell", x.cell(w), m.cell(w));
    }
  }
}
