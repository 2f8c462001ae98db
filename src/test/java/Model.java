import java.math.BigInteger;
import java.util.ArrayDeque;
import java.util.ArrayList;
import java.util.Deque;
import java.util.HashMap;
import java.util.List;
import java.util.Map;

/**
 * A second HaltRing, written from the document in the slowest and plainest way: whole copies, lists, real sequences
 * of triggers, exact fractions. RandomRunsTest compares the two.
 */
final class Model {
  static final class Core {
    int first, group, pc, cause;
    int[] reg = new int[4];
    String is = "runs";
    boolean mark;
    Core twin() { Core c = new Core(); c.first = first; c.group = group; c.pc = pc; c.cause = cause; c.reg = reg.clone(); c.is = is; c.mark = mark; return c; }
    boolean halted() { return is.equals("halted"); }
    void halt(int why) { if (!halted()) { is = "halted"; cause = why; } }
    int mode() { return is.equals("runs") ? 0 : is.equals("sleeps") ? 1 : 2; }
    int get(int what) {
      return new int[] {pc, mode(), cause, mark ? 1 : 0, reg[0], reg[1], reg[2], reg[3], group, first}[what];
    }
  }

  static final class Trig {
    int hart, kind, x, v, count, left;
    boolean chained;
    boolean never;
    Trig twin() { Trig t = new Trig(); t.hart = hart; t.kind = kind; t.x = x; t.v = v; t.count = count; t.left = left; t.chained = chained; t.never = never; return t; }
    int get(int what) { return new int[] {hart, kind, x, v, count, left, chained ? 1 : 0}[what]; }
  }

  static final class Ord {
    int order, hart, age, code, r, v, took;
    Ord twin() { Ord o = new Ord(); o.order = order; o.hart = hart; o.age = age; o.code = code; o.r = r; o.v = v; o.took = took; return o; }
    int get(int what) { return new int[] {order, hart, age, code}[what]; }
  }

  static final class Sys {
    List<String> program = new ArrayList<>();
    List<Core> harts = new ArrayList<>();
    List<Trig> triggers = new ArrayList<>();
    List<Ord> queue = new ArrayList<>();
    int[] cells = new int[8];
    int error, data;
    String[] buffer = {"", ""};
    int[] hows = new int[2];

    Sys twin() {
      Sys s = new Sys();
      s.program = program;
      for (Core c : harts) s.harts.add(c.twin());
      for (Trig t : triggers) s.triggers.add(t.twin());
      for (Ord o : queue) s.queue.add(o.twin());
      s.cells = cells.clone();
      s.error = error;
      s.data = data;
      s.buffer = buffer.clone();
      s.hows = hows.clone();
      return s;
    }

    int halted() { int n = 0; for (Core c : harts) if (c.halted()) n++; return n; }

    void send(int order, int hart, int r, int v) {
      boolean isAbstract = order == 3 || order == 4 || order == 5;
      if (isAbstract && error != 0) return;
      if (isAbstract) for (Ord o : queue) if (o.order >= 3 && o.order <= 5) { error = 1; return; }
      Ord o = new Ord();
      o.order = order; o.hart = hart; o.r = r; o.v = v;
      queue.add(o);
    }

    void ticks(int n) { for (int i = 0; i < n; i++) tick(); }

    void tick() {
      List<Boolean> was = new ArrayList<>();
      for (Core c : harts) was.add(c.halted());
      boolean written = false;
      // 1. orders
      for (Ord o : new ArrayList<>(queue)) {
        o.age += 1;
        if (o.age == o.hart + 1) written |= arrive(o);
        if (o.age == harts.size() + 1) {
          queue.remove(o);
          if (o.order >= 3) {
            if (o.code != 0) { if (error == 0) error = o.code; }
            else if (o.order == 3) data = o.took;
          }
        }
      }
      // 2. harts
      if (!program.isEmpty()) {
        for (int h = 0; h < harts.size(); h++) {
          Core c = harts.get(h);
          if (!c.is.equals("runs")) continue;
          if (c.pc >= program.size()) c.pc = 0;
          if (triggered(h)) { c.halt(2); continue; }
          String ins = program.get(c.pc);
          c.pc += 1;
          if (ins.charAt(0) == 'j') { if (c.reg[ins.charAt(1) - '0'] != 0) c.pc = ins.charAt(2) - 'a'; }
          else if (ins.equals("z")) { c.is = "sleeps"; c.mark = true; }
          else if (ins.equals("b")) c.halt(3);
          else written |= plain(c, ins);
        }
      }
      // 3. groups
      for (int group = 1; group <= 2; group++) {
        boolean fresh = false;
        for (int h = 0; h < harts.size(); h++)
          if (harts.get(h).group == group && !was.get(h) && harts.get(h).halted()) fresh = true;
        if (fresh) for (Core c : harts) if (c.group == group) c.halt(4);
      }
      // 4. waking
      if (written) for (Core c : harts) { c.mark = false; if (c.is.equals("sleeps")) c.is = "runs"; }
    }

    boolean arrive(Ord o) {
      Core c = harts.get(o.hart);
      if (o.order == 0) { c.halt(1); return false; }
      if (o.order == 1) {
        if (c.halted()) { c.is = c.mark ? "sleeps" : "runs"; c.cause = 0; }
        return false;
      }
      if (o.order == 2) {
        c.pc = c.first; c.reg = new int[4]; c.is = "runs"; c.cause = 0; c.mark = false;
        for (Trig t : triggers) if (t.hart == o.hart) t.left = t.count;
        return false;
      }
      if (!c.halted()) { o.code = 4; return false; }
      if (o.order == 3) { o.took = c.reg[o.r]; return false; }
      if (o.order == 4) { c.reg[o.r] = o.v; return false; }
      boolean written = false;
      for (String ins : buffer) {
        if (ins.isEmpty()) break;
        if ("jzb".indexOf(ins.charAt(0)) >= 0) { o.code = 3; break; }
        written |= plain(c, ins);
      }
      return written;
    }

    /** Executes a, d, c, l or w; tells whether it wrote cell 7. */
    boolean plain(Core c, String ins) {
      int r = ins.charAt(1) - '0';
      int x = ins.length() > 2 ? ins.charAt(2) - '0' : 0;
      if (ins.startsWith("a")) c.reg[r] = (c.reg[r] + x) % 1000;
      if (ins.startsWith("d") && c.reg[r] > 0) c.reg[r]--;
      if (ins.startsWith("c")) c.reg[r] = c.reg[x];
      if (ins.startsWith("l")) c.reg[r] = cells[x];
      if (ins.startsWith("w")) cells[x] = c.reg[r];
      return ins.startsWith("w") && x == 7;
    }

    List<List<Trig>> chains() {
      List<List<Trig>> all = new ArrayList<>();
      Trig previous = null;
      for (Trig t : triggers) {
        boolean joined = previous != null && previous.chained && previous.hart == t.hart;
        if (!joined) all.add(new ArrayList<>());
        all.get(all.size() - 1).add(t);
        previous = t;
      }
      return all;
    }

    boolean triggered(int h) {
      Core c = harts.get(h);
      for (List<Trig> chain : chains()) {
        if (chain.get(0).hart != h) continue;
        boolean every = true;
        for (Trig t : chain) {
          boolean match = t.kind == 0 ? c.pc == t.x : c.reg[t.x] == t.v;
          if (t.never || !match) every = false;
        }
        if (!every) continue;
        Trig t = chain.get(0);
        t.left--;
        if (t.left == 0) { t.left = t.count; return true; }
      }
      return false;
    }
  }

  private String text = "";
  private Sys now = new Sys();
  private final Deque<Sys> acts = new ArrayDeque<>();
  private final Sys[] slot = new Sys[2];
  private final List<int[]> sights = new ArrayList<>();
  private long seed;

  // ---- the board

  int write(int letter) {
    if (letter < 0 || letter > 255) return -2;
    if (text.length() == 150) return -4;
    text += (char) letter;
    return text.length();
  }

  int wipe() { int n = text.length(); text = ""; return n; }

  /** What may stand next, as a chain of sets of characters, is worked out letter by letter. */
  int fault() {
    Deque<String> due = new ArrayDeque<>();
    due.add("R");
    int ins = 0, harts = 0, trigs = 0;
    for (int i = 0; i < text.length(); i++) {
      char c = text.charAt(i);
      boolean part = due.isEmpty();
      if (part) due.add((ins < 16 ? "i" : "") + (harts < 4 ? "h" : "") + (trigs < 6 && harts > 0 ? "tT" : ""));
      String may = due.poll();
      if (may.startsWith("!")) may = may.substring(1);
      if (may.indexOf(c) < 0) return i;
      if (part && c == 'i') { ins++; due.add("abcdjlwz"); }
      else if (part && c == 'h') { harts++; due.add("abcdefghijklmnop"); due.add("012"); }
      else if (part) { trigs++; due.add("!" + "0123".substring(0, harts)); due.add("pq"); }
      else if (may.equals("abcdjlwz")) {
        if ("zb".indexOf(c) < 0) due.add("0123");
        if (c == 'a') due.add("0123456789");
        if (c == 'c') due.add("0123");
        if (c == 'l' || c == 'w') due.add("01234567");
        if (c == 'j') due.add("abcdefghijklmnop");
      } else if (may.equals("pq")) {
        if (c == 'p') due.add("abcdefghijklmnop");
        else { due.add("0123"); for (int d = 0; d < 3; d++) due.add("0123456789"); }
        due.add("123456789");
      }
    }
    return due.isEmpty() ? -9 : text.length();
  }

  int board() {
    if (fault() != -9) return -3;
    Sys s = new Sys();
    int i = 1;
    while (i < text.length()) {
      char c = text.charAt(i);
      if (c == 'i') {
        char k = text.charAt(i + 1);
        int size = "zb".indexOf(k) >= 0 ? 1 : k == 'd' ? 2 : 3;
        s.program.add(text.substring(i + 1, i + 1 + size));
        i += 1 + size;
      } else if (c == 'h') {
        Core core = new Core();
        core.first = core.pc = text.charAt(i + 1) - 'a';
        core.group = text.charAt(i + 2) - '0';
        s.harts.add(core);
        i += 3;
      } else {
        Trig t = new Trig();
        t.chained = c == 'T';
        t.hart = text.charAt(i + 1) - '0';
        t.kind = text.charAt(i + 2) == 'p' ? 0 : 1;
        int end = t.kind == 0 ? i + 4 : i + 7;
        t.x = t.kind == 0 ? text.charAt(i + 3) - 'a' : text.charAt(i + 3) - '0';
        t.v = t.kind == 0 ? 0 : Integer.parseInt(text.substring(i + 4, i + 7));
        t.count = t.left = text.charAt(end) - '0';
        s.triggers.add(t);
        i = end + 1;
      }
    }
    now = s;
    acts.clear();
    slot[0] = slot[1] = null;
    return s.harts.size();
  }

  private boolean noHart(int h) { return h < 0 || h >= now.harts.size(); }
  private boolean noTrig(int t) { return t < 0 || t >= now.triggers.size(); }
  private static boolean out(long v, long low, long high) { return v < low || v > high; }

  int hart(int h, int what) { return noHart(h) ? -1 : out(what, 0, 9) ? -2 : now.harts.get(h).get(what); }
  int trigger(int t, int what) { return noTrig(t) ? -1 : out(what, 0, 6) ? -2 : now.triggers.get(t).get(what); }
  int cell(int c) { return out(c, 0, 7) ? -2 : now.cells[c]; }
  int order(int o, int what) { return out(o, 0, now.queue.size() - 1) ? -1 : out(what, 0, 3) ? -2 : now.queue.get(o).get(what); }

  // ---- acts

  private void act() {
    acts.addLast(now.twin());
    if (acts.size() > 14) acts.removeFirst();
  }

  int tick(int n) {
    if (out(n, 1, 99)) return -2;
    act();
    now.ticks(n);
    return now.halted();
  }

  int send(int order, int h, int r, int v) {
    if (out(order, 0, 5)) return -2;
    if (noHart(h)) return -1;
    if (order == 3 || order == 4 ? out(r, 0, 3) : r != 0) return -2;
    if (order == 4 ? out(v, 0, 999) : v != 0) return -2;
    if (now.queue.size() == 8) return -4;
    act();
    now.send(order, h, r, v);
    return now.error;
  }

  int set(int t, int kind, int x, int v, int count, boolean chained) {
    if (noTrig(t)) return -1;
    if (kind != 0 && kind != 1) return -2;
    if (kind == 0 && (out(x, 0, 15) || v != 0)) return -2;
    if (kind == 1 && (out(x, 0, 3) || out(v, 0, 999))) return -2;
    if (out(count, 1, 9)) return -2;
    act();
    Trig trig = now.triggers.get(t);
    int previous = trig.kind;
    trig.kind = kind; trig.x = x; trig.v = v; trig.count = trig.left = count; trig.chained = chained;
    return previous;
  }

  /** The buffer's instruction for three digits in the form of the program, or null. */
  private static String instruction(int how) {
    if (how < 0 || how > 999) return null;
    String d = String.format("%03d", how);
    if (how == 0) return "";
    if (d.matches("1[0-3][0-9]")) return "a" + d.substring(1);
    if (d.matches("2[0-3]0")) return "d" + d.charAt(1);
    if (d.matches("3[0-3][0-3]")) return "c" + d.substring(1);
    if (d.matches("4[0-3][0-7]")) return "l" + d.substring(1);
    if (d.matches("5[0-3][0-7]")) return "w" + d.substring(1);
    if (d.matches("6[0-3][0-9]")) return "j" + d.charAt(1) + (char) (d.charAt(2) - '0' + 'a');
    if (d.equals("700")) return "z";
    if (d.equals("800")) return "b";
    return null;
  }

  int buffer(int at, int how) {
    if (out(at, 0, 1) || instruction(how) == null) return -2;
    act();
    int previous = now.hows[at];
    now.hows[at] = how;
    now.buffer[at] = instruction(how);
    return previous;
  }

  int clear() { act(); int e = now.error; now.error = 0; return e; }

  int poke(int c, int v) {
    if (out(c, 0, 7) || out(v, 0, 999)) return -2;
    act();
    int previous = now.cells[c];
    now.cells[c] = v;
    return previous;
  }

  int undo() {
    if (acts.isEmpty()) return -3;
    now = acts.removeLast();
    return acts.size();
  }

  // ---- forecasts

  int ahead(int n, int h, int what) {
    if (noHart(h)) return -1;
    if (out(n, 0, 99) || out(what, 0, 9)) return -2;
    Sys s = now.twin();
    s.ticks(n);
    return s.harts.get(h).get(what);
  }

  private static int halts(Sys start, int h) {
    Sys s = start.twin();
    for (int n = 0; n <= 60; n++) { if (s.harts.get(h).halted()) return n; s.tick(); }
    return -9;
  }

  int halts(int h) { return noHart(h) ? -1 : halts(now, h); }

  int soonest(int t) {
    if (noTrig(t)) return -1;
    int best = -9, fewest = 61;
    for (int place = 15; place >= 0; place--) {
      Sys s = now.twin();
      Trig trig = s.triggers.get(t);
      trig.kind = 0; trig.x = place; trig.v = 0; trig.count = 1; trig.left = 1; trig.chained = false;
      int n = halts(s, trig.hart);
      if (n != -9 && n <= fewest) { fewest = n; best = place; }
    }
    return best;
  }

  int all(int set) {
    if (out(set, 0, (1L << now.harts.size()) - 1)) return -2;
    Sys s = now.twin();
    for (int h = 0; h < 4; h++) if ((set & 1 << h) != 0) s.send(0, h, 0, 0);
    for (int n = 0; n <= 60; n++) { if (s.halted() == s.harts.size()) return n; s.tick(); }
    return -9;
  }

  int crew() {
    int best = -9, key = Integer.MAX_VALUE;
    for (int set = 0; set < 1 << now.harts.size(); set++) {
      int n = all(set);
      int k = n * 10000 + Integer.bitCount(set) * 100 + set;
      if (n != -9 && k < key) { key = k; best = set; }
    }
    return best;
  }

  int judge(int n, long row) {
    if (out(n, 1, 3) || row < 0 || Long.toString(row).length() > 6 * n) return -2;
    String digits = String.format("%0" + 6 * n + "d", row);
    Sys s = now.twin();
    for (int i = 0; i < n; i++) if (!good(s, digits.substring(6 * i, 6 * i + 6))) return i;
    return -9;
  }

  private static boolean good(Sys s, String d) {
    int a = d.charAt(1) - '0', b = d.charAt(2) - '0', v = Integer.parseInt(d.substring(3));
    boolean isHart = a < s.harts.size();
    if (d.matches("1..000")) { if (d.startsWith("100")) return false; s.ticks(a * 10 + b); return true; }
    if (d.matches("2[012].000")) {
      if (b >= s.harts.size() || s.queue.size() >= 8) return false;
      s.send(a, b, 0, 0);
      return true;
    }
    if (d.matches("3.[012]000")) return isHart && s.harts.get(a).mode() == b;
    if (d.matches("4.[0123]...")) return isHart && s.harts.get(a).reg[b] == v;
    if (d.matches("5[0-7]0...")) return s.cells[a] == v;
    if (d.matches("6.0000")) return s.error == a;
    if (d.matches("7...00")) return isHart && s.harts.get(a).pc == Integer.parseInt(d.substring(2, 4));
    return false;
  }

  // ---- seen

  int see(int n, int what, int v) {
    if (out(n, 0, 9) || out(what, 0, 2) || out(v, 0, what == 0 ? 15 : what == 1 ? 2 : 999)) return -2;
    if (sights.size() == 6) return -4;
    sights.add(new int[] {n, what, v});
    return sights.size();
  }

  int unsee() { int n = sights.size(); sights.clear(); return n; }

  int which() {
    int set = 0;
    for (int h = 0; h < now.harts.size(); h++) {
      boolean fits = true;
      for (int[] sight : sights) if (ahead(sight[0], h, new int[] {0, 1, 4}[sight[1]]) != sight[2]) fits = false;
      if (fits) set |= 1 << h;
    }
    return set;
  }

  // ---- shares, probabilities

  private static int part(BigInteger up, BigInteger low, boolean upper) {
    BigInteger g = up.gcd(low);
    return (upper ? up : low).divide(g).intValueExact();
  }

  private int value(int come) {
    Sys s = now.twin();
    for (int t = 0; t < s.triggers.size(); t++) s.triggers.get(t).never = (come >> t & 1) == 0;
    int sum = 0;
    for (int n = 0; n < 20; n++) { s.tick(); sum += s.halted(); }
    return sum;
  }

  int share(int t, boolean upper) {
    if (noTrig(t)) return -1;
    long[] total = new long[2];
    sequences(0, t, new HashMap<>(), total);
    return part(BigInteger.valueOf(total[0]), BigInteger.valueOf(total[1]), upper);
  }

  /** Adds to total[0] the difference that trigger t makes in each sequence that begins with a set, to total[1] their number. */
  private void sequences(int come, int t, Map<Integer, Integer> values, long[] total) {
    for (int next = 0; next < now.triggers.size(); next++) {
      if ((come >> next & 1) != 0) continue;
      int then = come | 1 << next;
      if (next == t) {
        long rest = 1;
        for (int i = 2; i <= now.triggers.size() - Integer.bitCount(then); i++) rest *= i;
        int gain = values.computeIfAbsent(then, this::value) - values.computeIfAbsent(come, this::value);
        total[0] += rest * gain;
        total[1] += rest;
      } else sequences(then, t, values, total);
    }
  }

  int lost(int x, boolean upper) {
    if (out(x, 0, 10)) return -2;
    int n = now.queue.size();
    return part(chance(now.twin(), 0, x), BigInteger.TEN.pow(n), upper);
  }

  /** The weight, of 10 to the number of orders from a position on, of the outcomes in which all harts end halted. */
  private static BigInteger chance(Sys s, int position, int x) {
    if (position == s.queue.size()) {
      Sys end = s.twin();
      end.ticks(10);
      return end.halted() == end.harts.size() ? BigInteger.ONE : BigInteger.ZERO;
    }
    Sys without = s.twin();
    without.queue.remove(position);
    BigInteger lose = chance(without, position, x).multiply(BigInteger.valueOf(x));
    return lose.add(chance(s, position + 1, x).multiply(BigInteger.valueOf(10 - x)));
  }

  long seed(long v) { long previous = seed; seed = v; return previous; }

  int drawn(int m) {
    if (out(m, 1, 20)) return -2;
    Sys s = now.twin();
    int sum = 0;
    for (int i = 0; i < m; i++) {
      seed = seed * 6364136223846793005L + 1442695040888963407L;
      int v = (int) (seed >>> 33);
      if (s.harts.isEmpty()) continue;
      if (s.queue.size() < 8) s.send(v % 3, v / 4 % s.harts.size(), 0, 0);
      s.tick();
      sum += s.halted();
    }
    return sum;
  }

  // ---- slots

  int keep(int i) { if (out(i, 0, 1)) return -1; slot[i] = now.twin(); return now.harts.size(); }

  int again(int i) {
    if (out(i, 0, 1)) return -1;
    if (slot[i] == null) return -3;
    now = slot[i].twin();
    acts.clear();
    return now.harts.size();
  }

  int count(int what) {
    if (out(what, 0, 11)) return -2;
    int set = 0;
    for (int h = 0; h < now.harts.size(); h++) if (now.harts.get(h).halted()) set |= 1 << h;
    return new int[] {text.length(), now.program.size(), now.harts.size(), now.triggers.size(), set, now.queue.size(),
        now.error, now.data, now.hows[0], now.hows[1], acts.size(), sights.size()}[what];
  }
}
