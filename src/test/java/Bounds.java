import java.util.ArrayList;
import java.util.List;

/**
 * What the tests of the document's boundaries share. Each of them names the sentence that it would see broken, and asks
 * at the last value inside and at the first outside. No object is asked more than the 512 calls that are promised.
 */
abstract class Bounds {
  static final int UNKNOWN = -1, OUTSIDE = -2, STATE = -3, FULL = -4, NONE = -9;
  static final int MIN = Integer.MIN_VALUE, MAX = Integer.MAX_VALUE;
  private static final int PROBES = 9;
  private static Check check;
  private static String sentence = "";

  interface Setup { HaltRing make(); }

  interface Call { long on(HaltRing x); }

  interface IntCall { long on(HaltRing x, int argument); }

  static void begin(String title) { check = new Check(title); }

  static void end() { check.end(); }

  /** The words of the document that the following answers are about. */
  static void sentence(String words) { sentence = words; }

  static void due(String call, long got, long want) { check.due("'" + sentence + "': " + call, got, want); }

  /** Compares the properties 0, 1, 2, .. of a hart with a row. */
  static void dueHart(String when, HaltRing x, int hart, int... row) {
    for (int what = 0; what < row.length; what++) due(when + ": hart(" + hart + ", " + what + ")", x.hart(hart, what), row[what]);
  }

  /** Compares the properties 0, 1, 2, .. of a trigger with a row. */
  static void dueTrigger(String when, HaltRing x, int trigger, int... row) {
    for (int what = 0; what < row.length; what++) {
      due(when + ": trigger(" + trigger + ", " + what + ")", x.trigger(trigger, what), row[what]);
    }
  }

  /** Compares the properties 0 to 3 of an order with a row. */
  static void dueOrder(String when, HaltRing x, int order, int... row) {
    for (int what = 0; what < row.length; what++) due(when + ": order(" + order + ", " + what + ")", x.order(order, what), row[what]);
  }

  // ---- systems to ask

  /** A system that has something of everything, and room for more: 3 harts, 5 triggers, 6 orders, 14 acts, 5 sights. */
  static HaltRing busy() {
    HaltRing x = Check.with("Ria01iw06il16ij1aizia12ibha1hb2hc0t0pb3T1q00022t1pb1t2pd4T0q15001");
    x.tick(2); x.send(0, 0, 0, 0); x.tick(1); x.poke(3, 333); x.buffer(0, 129); x.buffer(1, 507); x.set(3, 1, 2, 777, 5, true);
    x.keep(0);
    x.send(3, 0, 0, 0); x.tick(1); x.poke(0, 7); x.send(1, 1, 0, 0); x.send(0, 2, 0, 0); x.clear(); x.poke(7, 70);
    x.keep(1);
    x.send(2, 2, 0, 0); x.tick(1); x.send(1, 0, 0, 0);
    x.wipe();
    Check.write(x, "Ria35izhb2hp1T1q39998");
    x.see(0, 1, 2); x.see(9, 0, 3); x.see(1, 2, 1); x.see(3, 1, 0); x.see(0, 0, 1);
    x.seed(987654321987654321L);
    return x;
  }

  /** The same, but no room: 8 orders, 6 sights and 150 characters, which are no board. */
  static HaltRing full() {
    HaltRing x = busy();
    for (int n = x.count(5); n < 8; n++) x.send(0, 1, 0, 0);
    for (int n = x.count(11); n < 6; n++) x.see(0, 2, 0);
    for (int n = x.count(0); n < 150; n++) x.write('i');
    return x;
  }

  /** A board of one hart, which is halted at its first place before it has done anything, with these registers. */
  static HaltRing halted(String board, int... registers) {
    HaltRing x = Check.with(board);
    x.send(0, 0, 0, 0); x.tick(1);
    for (int r = 0; r < registers.length; r++) { x.send(4, 0, r, registers[r]); x.tick(2); }
    return x;
  }

  /** Lets the only hart, which is halted, go on; it does its first step in the same tick. */
  static HaltRing step(HaltRing x) {
    x.send(1, 0, 0, 0); x.tick(1);
    return x;
  }

  // ---- nothing changes

  /** A refused call, with each of these arguments, answers its error and changes nothing. */
  static void refused(String call, Setup setup, long error, IntCall c, int... arguments) {
    for (int a : arguments) unchanged(call + " with " + a, setup, error, x -> c.on(x, a));
  }

  /** A call with this answer changes nothing. */
  static void unchanged(String name, Setup setup, long want, Call call) {
    due(name, call.on(setup.make()), want);
    unchanged(name, setup, call);
  }

  /** A call changes nothing: of two objects that are alike, the one that it is made on stays like the other. */
  static void unchanged(String name, Setup setup, Call call) {
    for (int p = 0; p < PROBES; p++) {
      HaltRing touched = setup.make();
      call.on(touched);
      List<Long> is = probe(p, touched);
      List<Long> was = probe(p, setup.make());
      int at = 0;
      while (at < was.size() && is.get(at).equals(was.get(at))) at++;
      due(name + " changes nothing (probe " + p + ", the first answer that is another)", at, was.size());
    }
  }

  /** A way of finding out about an object; some of them use it up. */
  private static List<Long> probe(int p, HaltRing x) {
    List<Long> all = new ArrayList<>();
    switch (p) {
      case 0: break;
      case 1: add(all, x.fault(), x.which(), x.seed(5), x.board(), x.which()); break;
      case 2: for (int i = 0; i < 5; i++) add(all, x.tick(1), x.which(), x.count(7)); break;
      case 3: add(all, x.undo()); break;
      case 4: for (int i = 0; i < 7; i++) add(all, x.undo()); break;
      case 5: for (int i = 0; i < 14; i++) add(all, x.undo()); break;
      case 6: case 7: add(all, x.again(p - 6)); break;
      default: add(all, x.drawn(20), x.seed(0), x.undo(), x.undo(), x.undo(), x.undo(), x.again(0), x.undo()); break;
    }
    look(all, x);
    return all;
  }

  private static void add(List<Long> all, long... answers) { for (long a : answers) all.add(a); }

  /** All that can be seen of an object without changing it, in 137 calls. */
  private static void look(List<Long> all, HaltRing x) {
    for (int h = 0; h < 4; h++) for (int w = 0; w < 10; w++) add(all, x.hart(h, w));
    for (int t = 0; t < 6; t++) for (int w = 0; w < 7; w++) add(all, x.trigger(t, w));
    for (int c = 0; c < 8; c++) add(all, x.cell(c));
    for (int o = 0; o < 8; o++) for (int w = 0; w < 4; w++) add(all, x.order(o, w));
    for (int w = 0; w < 12; w++) add(all, x.count(w));
    add(all, x.fault(), x.which(), x.halts(0));
  }
}
