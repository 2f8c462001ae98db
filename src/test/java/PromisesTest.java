/** One method for each promise, with answers worked out by hand from the document. */
public final class PromisesTest {
  private static final Check check = new Check("promises");
  private static int promise;

  private static void due(String call, long got, long want) { check.due("promise " + promise + ": " + call, got, want); }

  /** Compares the properties 0, 1, 2, .. of a hart with a row. */
  private static void dueHart(HaltRing x, int hart, int... row) {
    for (int what = 0; what < row.length; what++) due("hart(" + hart + ", " + what + ")", x.hart(hart, what), row[what]);
  }

  private static void dueFault(String text, int want) {
    HaltRing x = new HaltRing();
    Check.write(x, text);
    due("fault() of " + text, x.fault(), want);
    due("board() of " + text, x.board(), want == HaltRing.NONE ? x.count(2) : HaltRing.STATE);
  }

  public static void main(String[] args) {
    promise = 1; newObject();
    promise = 2; write();
    promise = 3; wipe();
    promise = 4; fault();
    promise = 5; board();
    promise = 6; hart();
    promise = 7; trigger();
    promise = 8; cell();
    promise = 9; order();
    promise = 10; tick(); tickOrders(); tickTriggers(); tickGroups(); tickWaking();
    promise = 11; send();
    promise = 12; set();
    promise = 13; buffer();
    promise = 14; clear();
    promise = 15; poke();
    promise = 16; undo();
    promise = 17; ahead();
    promise = 18; halts();
    promise = 19; soonest();
    promise = 20; all();
    promise = 21; crew();
    promise = 22; judge();
    promise = 23; see();
    promise = 24; unsee();
    promise = 25; which();
    promise = 26; share();
    promise = 27; lost();
    promise = 28; seed();
    promise = 29; drawn();
    promise = 30; keep();
    promise = 31; again();
    promise = 32; count();
    check.end();
  }

  private static void newObject() {
    HaltRing x = new HaltRing();
    for (int what = 0; what <= 11; what++) due("count(" + what + ")", x.count(what), 0);
    for (int c = 0; c < 8; c++) due("cell", x.cell(c), 0);
    due("hart", x.hart(0, 0), -1);
    due("trigger", x.trigger(0, 0), -1);
    due("order", x.order(0, 0), -1);
    due("undo", x.undo(), -3);
    due("again", x.again(0), -3);
    due("seed", x.seed(1), 0);
  }

  private static void write() {
    HaltRing x = new HaltRing();
    due("write(-1)", x.write(-1), -2);
    due("write(256)", x.write(256), -2);
    due("write(0)", x.write(0), 1);
    due("write(255)", x.write(255), 2);
    for (int i = 3; i <= 150; i++) due("write", x.write(65), i);
    due("write to a full text", x.write(65), -4);
    due("a wrong letter to a full text", x.write(256), -2);
    due("count(0)", x.count(0), 150);
  }

  private static void wipe() {
    HaltRing x = Check.with("Rha0");
    due("wipe()", x.wipe(), 4);
    due("wipe()", x.wipe(), 0);
    due("count(0)", x.count(0), 0);
    due("the system stays", x.count(2), 1);
    due("write(82)", x.write(82), 1);
  }

  private static void fault() {
    dueFault("", 0);
    dueFault("r", 0);
    dueFault("S", 0);
    dueFault("Q", 0);
    dueFault("R", -9);
    dueFault("R ", 1);
    dueFault("RR", 1);
    dueFault("R" + (char) 0, 1);
    dueFault("R" + (char) 255, 1);
    for (String good : new String[] {"Ria09", "Ria30", "Rid0", "Rid3", "Ric33", "Ril37", "Riw07", "Rij3a", "Rij0p", "Riz", "Rib",
        "Rha0", "Rhp2", "Rha0t0pa1", "Rha0T0pp9", "Rha0t0q00001", "Rha0T0q39999", "Rha0ha0t1pa1ibt0pb2hc1t2pc3"}) {
      dueFault(good, -9);
      dueFault(good + "x", good.length());
      for (int cut = 1; cut < good.length(); cut++) {
        String part = good.substring(0, cut);
        if (!part.equals("R") && good.length() - cut < 2) dueFault(part, cut);
      }
    }
    dueFault("Ria4", 3);
    dueFault("Ria0:", 4);
    dueFault("Ria0/", 4);
    dueFault("Ric04", 4);
    dueFault("Ril08", 4);
    dueFault("Riw08", 4);
    dueFault("Rij0q", 4);
    dueFault("Rij0`", 4);
    dueFault("Rij05", 4);
    dueFault("Ri", 2);
    dueFault("Rie", 2);
    dueFault("RiA", 2);
    dueFault("Rh", 2);
    dueFault("Rhq", 2);
    dueFault("Rha3", 3);
    dueFault("Rt0pa1", 1);
    dueFault("RT0pa1", 1);
    dueFault("Rha0t1pa1", 5);
    dueFault("Rha0ha0t2", 8);
    dueFault("Rha0t0r", 6);
    dueFault("Rha0t0o", 6);
    dueFault("Rha0t0pq", 7);
    dueFault("Rha0t0pa0", 8);
    dueFault("Rha0t0pa:", 8);
    dueFault("Rha0t0q4", 7);
    dueFault("Rha0t0q300a", 10);
    dueFault("Rha0t0q3:001", 8);
    dueFault("Rha0t0q30:01", 9);
    dueFault("Rha0t0q300:1", 10);
    dueFault("Rha0t0q3/001", 8);
    dueFault("Rha0t0q30000", 11);
    dueFault("R" + "iz".repeat(16), -9);
    dueFault("R" + "iz".repeat(16) + "i", 33);
    dueFault("R" + "iz".repeat(17), 33);
    dueFault("R" + "ha0".repeat(4), -9);
    dueFault("R" + "ha0".repeat(5), 13);
    dueFault("Rha0" + "t0pa1".repeat(6), -9);
    dueFault("Rha0" + "t0pa1".repeat(6) + "T", 34);
    dueFault("Rha0" + "t0pa1".repeat(7), 34);
    dueFault("R" + "ia00".repeat(16) + "ha0".repeat(4) + "t0q00001".repeat(6), -9);
    HaltRing stale = new HaltRing();
    Check.write(stale, "Ria00" + "x".repeat(145));
    for (int length = 1; length < 5; length++) {
      stale.wipe();
      Check.write(stale, "Ria00".substring(0, length));
      due("what was wiped does not count", stale.fault(), length == 1 ? -9 : length);
    }
  }

  private static void board() {
    HaltRing x = Check.with("Ria01hc1hd0t0q20423");
    due("instructions", x.count(1), 1);
    dueHart(x, 0, 2, 0, 0, 0, 0, 0, 0, 0, 1, 2);
    dueHart(x, 1, 3, 0, 0, 0, 0, 0, 0, 0, 0, 3);
    x.tick(2); x.poke(3, 5); x.buffer(0, 101); x.buffer(1, 700); x.send(0, 0, 0, 0); x.send(3, 1, 0, 0); x.tick(3);
    x.set(0, 0, 1, 0, 5, true); x.keep(0); x.keep(1); x.see(1, 1, 1); x.seed(77); x.send(3, 0, 0, 0);
    due("error", x.count(6), 4);
    due("board()", x.board(), 2);
    dueHart(x, 0, 2, 0, 0, 0, 0, 0, 0, 0, 1, 2);
    dueHart(x, 1, 3, 0, 0, 0, 0, 0, 0, 0, 0, 3);
    due("trigger's kind", x.trigger(0, 1), 1);
    due("trigger's left", x.trigger(0, 5), 3);
    due("cell(3)", x.cell(3), 0);
    for (int what = 4; what <= 10; what++) due("count(" + what + ")", x.count(what), 0);
    due("undo()", x.undo(), -3);
    due("again(0)", x.again(0), -3);
    due("again(1)", x.again(1), -3);
    due("sights stay", x.count(11), 1);
    due("the text stays", x.count(0), 19);
    due("the seed stays", x.seed(0), 77);
    x.tick(1); x.keep(0); x.write('x');
    due("board() with a fault", x.board(), -3);
    due("nothing changes", x.count(10), 1);
    due("the slot stays", x.again(0), 2);
    x.wipe(); x.write('R');
    due("board() of R", x.board(), 0);
    due("instructions", x.count(1), 0);
    due("triggers", x.count(3), 0);
    due("hart(0, 0)", x.hart(0, 0), -1);
  }

  private static void hart() {
    HaltRing x = Check.with("Rizia15ha2");
    dueHart(x, 0, 0, 0, 0, 0, 0, 0, 0, 0, 2, 0);
    x.tick(1);
    dueHart(x, 0, 1, 1, 0, 1, 0, 0, 0, 0, 2, 0);
    x.send(0, 0, 0, 0); x.tick(1);
    dueHart(x, 0, 1, 2, 1, 1);
    due("hart(0, 10)", x.hart(0, 10), -2);
    due("hart(0, -1)", x.hart(0, -1), -2);
    due("hart(0, MIN)", x.hart(0, Integer.MIN_VALUE), -2);
    due("hart(1, 0)", x.hart(1, 0), -1);
    due("hart(-1, 0)", x.hart(-1, 0), -1);
    due("hart(1, 10)", x.hart(1, 10), -1);
    HaltRing y = Check.with("Rib" + "hp1");
    dueHart(y, 0, 15, 0, 0, 0, 0, 0, 0, 0, 1, 15);
    y.tick(1);
    dueHart(y, 0, 1, 2, 3, 0, 0, 0, 0, 0, 1, 15);
    HaltRing z = Check.with("Ria09ia18ia27ia36ha0");
    z.tick(4);
    dueHart(z, 0, 4, 0, 0, 0, 9, 8, 7, 6);
    z.tick(1);
    dueHart(z, 0, 1, 0, 0, 0, 18, 8, 7, 6);
  }

  private static void trigger() {
    HaltRing x = Check.with("Rha0ha0t1ph4T0q31239");
    int[][] rows = {{1, 0, 7, 0, 4, 4, 0}, {0, 1, 3, 123, 9, 9, 1}};
    for (int t = 0; t < 2; t++) for (int w = 0; w < 7; w++) due("trigger(" + t + ", " + w + ")", x.trigger(t, w), rows[t][w]);
    due("trigger(0, 7)", x.trigger(0, 7), -2);
    due("trigger(0, -1)", x.trigger(0, -1), -2);
    due("trigger(2, 0)", x.trigger(2, 0), -1);
    due("trigger(-1, 9)", x.trigger(-1, 9), -1);
  }

  private static void cell() {
    HaltRing x = new HaltRing();
    x.poke(0, 5); x.poke(7, 999);
    due("cell(0)", x.cell(0), 5);
    due("cell(7)", x.cell(7), 999);
    due("cell(1)", x.cell(1), 0);
    due("cell(8)", x.cell(8), -2);
    due("cell(-1)", x.cell(-1), -2);
  }

  private static void order() {
    HaltRing x = Check.with("Rha0ha0ha0");
    x.send(1, 2, 0, 0); x.tick(1); x.send(4, 0, 3, 500);
    int[][] rows = {{1, 2, 1, 0}, {4, 0, 0, 0}};
    for (int o = 0; o < 2; o++) for (int w = 0; w < 4; w++) due("order(" + o + ", " + w + ")", x.order(o, w), rows[o][w]);
    x.tick(1);
    due("the code of failure", x.order(1, 3), 4);
    due("the error comes with the order's return", x.count(6), 0);
    due("order(0, 4)", x.order(0, 4), -2);
    due("order(0, -1)", x.order(0, -1), -2);
    due("order(2, 0)", x.order(2, 0), -1);
    due("order(-1, 9)", x.order(-1, 9), -1);
    x.tick(2);
    due("the first is back", x.count(5), 1);
    due("the second moved up", x.order(0, 0), 4);
    due("its age", x.order(0, 2), 3);
    x.tick(1);
    due("count(5)", x.count(5), 0);
    due("count(6)", x.count(6), 4);
  }

  private static void tick() {
    HaltRing x = Check.with("Ria09ic10iw12il22id2ij2ghg0ha0");
    due("tick(0)", x.tick(0), -2);
    due("tick(100)", x.tick(100), -2);
    due("tick(-1)", x.tick(-1), -2);
    due("no act", x.count(10), 0);
    due("tick(6)", x.tick(6), 0);
    dueHart(x, 1, 6, 0, 0, 0, 9, 9, 8, 0);
    due("a place behind becomes 0 first", x.hart(0, 0), 6);
    due("cell(2)", x.cell(2), 9);
    due("tick(99)", x.tick(99), 0);
    HaltRing d = Check.with("Rid0ha0");
    d.tick(5);
    due("d stops at 0", d.hart(0, 4), 0);
    HaltRing a = Check.with("Ria09ha0");
    a.tick(99); a.tick(12);
    due("r is 999", a.hart(0, 4), 999);
    a.tick(1);
    due("then 8", a.hart(0, 4), 8);
    HaltRing j = Check.with("Rij0eia01ij0pib" + "ha0");
    j.tick(1);
    due("j with 0 goes on", j.hart(0, 0), 1);
    j.tick(2);
    due("j goes behind the program", j.hart(0, 0), 15);
    due("tick", j.tick(1), 0);
    due("from there to 0, then j to 4", j.hart(0, 0), 4);
    HaltRing b = Check.with("Ribha0hb0");
    due("both halt", b.tick(1), 2);
    due("behind b", b.hart(0, 0), 1);
    due("cause", b.hart(0, 2), 3);
    HaltRing e = Check.with("Rhc0t0pc1");
    due("an empty program does nothing", e.tick(9), 0);
    due("pc stays", e.hart(0, 0), 2);
    due("left stays", e.trigger(0, 5), 1);
    HaltRing seq = Check.with("Ria01iw00il10iw10" + "ha0hc0");
    seq.tick(2);
    due("hart 0 wrote first, hart 1 then its register", seq.cell(0), 0);
  }

  private static void tickOrders() {
    HaltRing x = Check.with("Ria01izha0ha0ha0");
    x.send(0, 2, 0, 0);
    due("age 1", x.tick(1), 0);
    due("age 2", x.tick(1), 0);
    due("age 3 reaches hart 2", x.tick(1), 1);
    dueHart(x, 2, 2, 2, 1, 1, 1);
    due("still on its way", x.count(5), 1);
    x.tick(1);
    due("back", x.count(5), 0);
    x.send(1, 2, 0, 0); x.tick(3);
    dueHart(x, 2, 2, 1, 0, 1, 1);
    x.send(2, 2, 0, 0); x.tick(3);
    dueHart(x, 2, 1, 0, 0, 0, 1);
    x.send(1, 2, 0, 0); x.tick(4);
    due("resume of a sleeping hart changes nothing", x.hart(2, 1), 1);
    HaltRing y = Check.with("Ria11ha0");
    y.tick(3); y.send(0, 0, 0, 0); y.tick(1); y.send(3, 0, 1, 0);
    y.tick(1);
    due("data comes with the order's return", y.count(7), 0);
    y.send(4, 0, 1, 700);
    due("a second abstract order is dropped", y.count(6), 1);
    y.tick(1);
    due("data", y.count(7), 3);
    due("the error stays", y.count(6), 1);
    y.send(4, 0, 1, 700);
    due("dropped by the error", y.count(5), 0);
    y.clear(); y.send(4, 0, 1, 700); y.tick(1);
    due("written", y.hart(0, 5), 700);
    y.tick(1);
    due("data after a write", y.count(7), 3);
    y.buffer(0, 119); y.buffer(1, 513); y.send(5, 0, 0, 0); y.tick(2);
    due("the buffer ran", y.hart(0, 5), 709);
    due("and wrote", y.cell(3), 709);
    due("pc stays", y.hart(0, 0), 1);
    due("no error", y.count(6), 0);
    y.buffer(0, 0); y.send(5, 0, 0, 0); y.poke(3, 0); y.tick(2);
    due("an empty instruction ends the buffer", y.cell(3), 0);
    due("no error", y.count(6), 0);
    for (int how : new int[] {600, 700, 800}) {
      y.clear(); y.buffer(0, 111); y.buffer(1, how); y.send(5, 0, 0, 0); y.tick(1);
      due("failed with 3 at " + how, y.order(0, 3), 3);
      y.tick(1);
      due("the error then", y.count(6), 3);
      due("the hart stays halted", y.hart(0, 1), 2);
    }
    due("the first instruction was executed each time", y.hart(0, 5), 712);
    y.clear(); y.send(1, 0, 0, 0); y.send(3, 0, 1, 0); y.tick(1);
    due("a read of a hart that runs", y.order(1, 3), 4);
    y.tick(1);
    due("error 4", y.count(6), 4);
    due("data stays", y.count(7), 3);
    y.clear(); y.send(0, 0, 0, 0); y.send(3, 0, 1, 0); y.send(3, 0, 1, 0); y.tick(2);
    due("an error that is there stays", y.count(6), 1);
    HaltRing r = Check.with("Ria01ia01ibha0t0q20003");
    r.tick(2); r.send(0, 0, 0, 0); r.tick(1);
    r.send(0, 0, 0, 0); r.tick(1);
    due("a halt of a halted hart changes nothing", r.hart(0, 2), 1);
    due("left", r.trigger(0, 5), 1);
    r.send(2, 0, 0, 0); r.tick(1);
    due("reset sets left to the count, then the chain matches once", r.trigger(0, 5), 2);
    dueHart(r, 0, 1, 0, 0, 0, 1);
  }

  private static void tickTriggers() {
    HaltRing x = Check.with("Ria01ij0aha0t0pb3t0q00012");
    x.tick(1); x.tick(1); x.tick(1);
    due("place 1 met once", x.trigger(0, 5), 2);
    due("register 0 was 1 twice: it halts at place 0", x.trigger(1, 5), 2);
    dueHart(x, 0, 0, 2, 2, 0, 1);
    x.send(1, 0, 0, 0); x.tick(1);
    due("the second chain begins anew", x.trigger(1, 5), 1);
    dueHart(x, 0, 1, 0, 0, 0, 2);
    HaltRing first = Check.with("Ria01ha0t0pa1t0pa1");
    first.tick(1);
    due("no further chain is examined", first.trigger(1, 5), 1);
    dueHart(first, 0, 0, 2, 2, 0, 0);
    HaltRing two = Check.with("Ria01ha0t0pa2t0pa5t0q00009");
    two.tick(1);
    due("the first", two.trigger(0, 5), 1);
    due("the second", two.trigger(1, 5), 4);
    due("the third", two.trigger(2, 5), 8);
    two.tick(1);
    due("halted by the first", two.trigger(0, 5), 2);
    due("the second was not examined", two.trigger(1, 5), 4);
    HaltRing chain = Check.with("Ria01ha0T0pa2t0q00025");
    due("a chain needs all: r is 2 at the third tick", chain.tick(3), 0);
    due("its first counts", chain.trigger(0, 5), 1);
    due("its second does not", chain.trigger(1, 5), 5);
    HaltRing other = Check.with("Ria01ha0ha0T0pa2t1q09991");
    due("not joined to another hart's", other.tick(2), 1);
    HaltRing last = Check.with("Ria01ha0T0pa1");
    due("the last one is joined to none", last.tick(1), 1);
    HaltRing behind = Check.with("Ria01hc0t0pc1t0pa1");
    due("the place becomes 0 before the triggers", behind.tick(1), 1);
    due("pc", behind.hart(0, 0), 0);
    due("the trigger at 0 did it", behind.trigger(0, 5), 1);
    HaltRing three = Check.with("Ria01ha0T0pa1T0q00001t0q10001");
    due("a chain of three", three.tick(1), 1);
    HaltRing sleeper = Check.with("Rizha0t0pb9");
    sleeper.tick(5);
    due("a sleeping hart examines nothing", sleeper.trigger(0, 5), 9);
  }

  private static void tickGroups() {
    HaltRing x = Check.with("Ria01izibha1ha1ha2ha0");
    x.tick(2); x.send(0, 1, 0, 0);
    due("tick(1)", x.tick(1), 0);
    due("hart 1 and its group", x.tick(1), 2);
    due("set", x.count(4), 3);
    dueHart(x, 0, 2, 2, 4, 1);
    dueHart(x, 1, 2, 2, 1, 1);
    due("group 2 not", x.hart(2, 1), 1);
    due("no group not", x.hart(3, 1), 1);
    HaltRing none = Check.with("Ribia01hb0ha0");
    due("group 0 is none", none.tick(1), 1);
    HaltRing again = Check.with("Ria01ha1ha1t0pa1");
    due("a trigger halts the group", again.tick(1), 2);
    again.send(1, 0, 0, 0); again.send(1, 1, 0, 0);
    again.tick(1);
    due("hart 0 was halted before: the group is not halted anew", again.tick(1), 1);
    dueHart(again, 0, 0, 2, 2);
    dueHart(again, 1, 1, 0, 0, 0, 2);
    HaltRing same = Check.with("Ria01ha1ha1");
    same.send(0, 0, 0, 0); same.send(1, 0, 0, 0);
    due("halted and resumed in one tick", same.tick(1), 0);
  }

  private static void tickWaking() {
    HaltRing x = Check.with("Rizia01iw17ha0hb0ha0");
    x.send(0, 2, 0, 0);
    x.tick(1);
    due("asleep", x.hart(0, 1), 1);
    x.tick(1);
    due("w of 7 wakes, whatever the value", x.hart(0, 1), 0);
    dueHart(x, 0, 1, 0, 0, 0, 0);
    x.tick(1);
    due("it runs from the next tick on", x.hart(0, 4), 1);
    HaltRing halted = Check.with("Rizia01iw07ia01iw07ha0hb0");
    halted.tick(1); halted.send(0, 0, 0, 0); halted.poke(7, 3);
    due("poke wakes nobody", halted.hart(0, 1), 1);
    halted.tick(1);
    dueHart(halted, 0, 1, 2, 1, 0);
    halted.send(1, 0, 0, 0); halted.tick(1);
    due("without the mark it runs", halted.hart(0, 1), 0);
    HaltRing falling = Check.with("Riw07izha0hb0");
    falling.tick(1);
    due("one that fell asleep in this tick is woken too", falling.hart(1, 1), 0);
    HaltRing buffer = Check.with("Rizha0ha0");
    buffer.tick(1); buffer.send(0, 0, 0, 0); buffer.tick(3);
    buffer.buffer(0, 507); buffer.send(5, 0, 0, 0); buffer.tick(1);
    due("w of the buffer wakes", buffer.hart(1, 1), 0);
    due("and removes the mark of the halted", buffer.hart(0, 3), 0);
    HaltRing six = Check.with("Rizia01iw06ha0hb0");
    six.tick(3);
    due("w of 6 does not", six.hart(0, 1), 1);
    HaltRing reset = Check.with("Rizia01ha0");
    reset.tick(1); reset.send(2, 0, 0, 0); reset.tick(1);
    due("reset, then z again", reset.hart(0, 1), 1);
  }

  private static void send() {
    HaltRing x = Check.with("Rha0ha0");
    due("order 6", x.send(6, 0, 0, 0), -2);
    due("order -1", x.send(-1, 5, 0, 0), -2);
    due("hart 2", x.send(0, 2, 9, 9), -1);
    due("hart -1", x.send(0, -1, 0, 0), -1);
    for (int order : new int[] {0, 1, 2, 5}) {
      due("r of order " + order, x.send(order, 0, 1, 0), -2);
      due("v of order " + order, x.send(order, 0, 0, 1), -2);
    }
    due("r of read", x.send(3, 0, 4, 0), -2);
    due("r of read", x.send(3, 0, -1, 0), -2);
    due("v of read", x.send(3, 0, 3, 1), -2);
    due("r of write", x.send(4, 0, 4, 0), -2);
    due("v of write", x.send(4, 0, 0, 1000), -2);
    due("v of write", x.send(4, 0, 0, -1), -2);
    due("no act", x.count(10), 0);
    due("send(3, 1, 3, 0)", x.send(3, 1, 3, 0), 0);
    due("send(4, 1, 3, 999)", x.send(4, 1, 3, 999), 1);
    due("dropped, but an act", x.count(10), 2);
    due("one on its way", x.count(5), 1);
    for (int i = 0; i < 7; i++) due("send(0, 0, 0, 0)", x.send(0, 0, 0, 0), 1);
    due("the ninth", x.send(0, 0, 0, 0), -4);
    due("the ninth, dropped anyway", x.send(5, 0, 0, 0), -4);
    due("range before room", x.send(0, 0, 1, 0), -2);
    due("acts", x.count(10), 9);
    due("order(7, 0)", x.order(7, 0), 0);
  }

  private static void set() {
    HaltRing x = Check.with("Ria01ha0hb0t1pa3");
    due("trigger 1", x.set(1, 9, 0, 0, 0, false), -1);
    due("trigger -1", x.set(-1, 0, 0, 0, 1, false), -1);
    due("kind 2", x.set(0, 2, 0, 0, 1, false), -2);
    due("kind -1", x.set(0, -1, 0, 0, 1, false), -2);
    due("place 16", x.set(0, 0, 16, 0, 1, false), -2);
    due("place -1", x.set(0, 0, -1, 0, 1, false), -2);
    due("register 4", x.set(0, 1, 4, 0, 1, false), -2);
    due("v of kind 0", x.set(0, 0, 0, 1, 1, false), -2);
    due("v 1000", x.set(0, 1, 0, 1000, 1, false), -2);
    due("v -1", x.set(0, 1, 0, -1, 1, false), -2);
    due("count 0", x.set(0, 0, 0, 0, 0, false), -2);
    due("count 10", x.set(0, 0, 0, 0, 10, false), -2);
    due("no act", x.count(10), 0);
    due("set", x.set(0, 1, 3, 999, 9, true), 0);
    int[] row = {1, 1, 3, 999, 9, 9, 1};
    for (int w = 0; w < 7; w++) due("trigger(0, " + w + ")", x.trigger(0, w), row[w]);
    due("set", x.set(0, 0, 15, 0, 1, false), 1);
    int[] then = {1, 0, 15, 0, 1, 1, 0};
    for (int w = 0; w < 7; w++) due("trigger(0, " + w + ")", x.trigger(0, w), then[w]);
    due("acts", x.count(10), 2);
    x.set(0, 0, 0, 0, 4, false); x.tick(3); x.set(0, 0, 0, 0, 4, false);
    due("left is the count again", x.trigger(0, 5), 4);
  }

  private static void buffer() {
    HaltRing x = new HaltRing();
    due("at 2", x.buffer(2, 0), -2);
    due("at -1", x.buffer(-1, 0), -2);
    String[] form = {"000", "1[0-3][0-9]", "2[0-3]0", "3[0-3][0-3]", "4[0-3][0-7]", "5[0-3][0-7]", "6[0-3][0-9]", "700", "800"};
    int previous = 0;
    for (int how = -1001; how < 1200; how++) {
      // an object is promised to answer 512 calls
      if (how % 400 == 0) { x = new HaltRing(); previous = 0; }
      boolean good = how >= 0 && how < 900 && String.format("%03d", how).matches(form[how / 100]);
      due("buffer(1, " + how + ")", x.buffer(1, how), good ? previous : -2);
      if (good) previous = how;
    }
    due("MIN", x.buffer(0, Integer.MIN_VALUE), -2);
    due("MAX", x.buffer(0, Integer.MAX_VALUE), -2);
    due("the other stays", x.count(8), 0);
    due("count(9)", x.count(9), 800);
  }

  private static void clear() {
    HaltRing x = Check.with("Rha0");
    due("clear()", x.clear(), 0);
    x.send(3, 0, 0, 0); x.send(3, 0, 0, 0);
    due("clear()", x.clear(), 1);
    due("count(6)", x.count(6), 0);
    due("acts", x.count(10), 4);
  }

  private static void poke() {
    HaltRing x = new HaltRing();
    due("poke(0, 999)", x.poke(0, 999), 0);
    due("poke(0, 1)", x.poke(0, 1), 999);
    due("poke(8, 0)", x.poke(8, 0), -2);
    due("poke(-1, 0)", x.poke(-1, 0), -2);
    due("poke(0, 1000)", x.poke(0, 1000), -2);
    due("poke(0, -1)", x.poke(0, -1), -2);
    due("acts", x.count(10), 2);
    due("cell(0)", x.cell(0), 1);
  }

  private static void undo() {
    HaltRing x = Check.with("Ria01iw00ha0t0pb9");
    due("undo()", x.undo(), -3);
    x.tick(2); x.send(0, 0, 0, 0); x.set(0, 1, 0, 5, 3, true); x.buffer(1, 101); x.send(3, 0, 0, 0); x.send(3, 0, 0, 0);
    x.clear(); x.poke(4, 44);
    due("undo of poke", x.undo(), 7);
    due("cell(4)", x.cell(4), 0);
    due("error", x.count(6), 0);
    due("undo of clear", x.undo(), 6);
    due("error", x.count(6), 1);
    due("undo of a dropped send", x.undo(), 5);
    due("error", x.count(6), 0);
    due("undo of send", x.undo(), 4);
    due("orders", x.count(5), 1);
    due("undo of buffer", x.undo(), 3);
    due("count(9)", x.count(9), 0);
    due("undo of set", x.undo(), 2);
    int[] row = {0, 0, 1, 0, 9, 8, 0};
    for (int w = 0; w < 7; w++) due("trigger(0, " + w + ")", x.trigger(0, w), row[w]);
    due("undo of send", x.undo(), 1);
    due("orders", x.count(5), 0);
    due("undo of tick", x.undo(), 0);
    dueHart(x, 0, 0, 0, 0, 0, 0);
    due("left", x.trigger(0, 5), 9);
    due("undo()", x.undo(), -3);
    for (int i = 1; i <= 20; i++) x.poke(0, i);
    due("acts", x.count(10), 14);
    for (int i = 13; i >= 9; i--) due("undo()", x.undo(), i);
    due("cell(0)", x.cell(0), 15);
    x.poke(0, 500); x.poke(0, 501);
    due("acts", x.count(10), 11);
    for (int i = 10; i >= 0; i--) due("undo()", x.undo(), i);
    due("cell(0)", x.cell(0), 6);
    due("undo()", x.undo(), -3);
    x.see(0, 0, 0); x.seed(5); x.write(65); x.keep(0);
    due("what is no act", x.count(10), 0);
  }

  private static void ahead() {
    HaltRing x = Check.with("Ria01iziw07hb0ha2");
    due("ahead(0, 1, 8)", x.ahead(0, 1, 8), 2);
    due("ahead(2, 1, 1)", x.ahead(2, 1, 1), 1);
    due("ahead(2, 1, 3)", x.ahead(2, 1, 3), 1);
    due("ahead(99, 1, 4)", x.ahead(99, 1, 4), 1);
    due("ahead(99, 1, 9)", x.ahead(99, 1, 9), 0);
    due("ahead(-1, 0, 0)", x.ahead(-1, 0, 0), -2);
    due("ahead(100, 0, 0)", x.ahead(100, 0, 0), -2);
    due("ahead(1, 0, 10)", x.ahead(1, 0, 10), -2);
    due("ahead(1, 0, -1)", x.ahead(1, 0, -1), -2);
    due("ahead(100, 2, 10)", x.ahead(100, 2, 10), -1);
    due("nothing changes", x.hart(1, 4), 0);
    due("no act", x.count(10), 0);
    x.send(0, 1, 0, 0);
    due("orders go on", x.ahead(2, 1, 2), 1);
    due("the order stays", x.order(0, 2), 0);
  }

  private static void halts() {
    HaltRing x = Check.with("R" + "ia01".repeat(15) + "ibha0hp0hb0t0pa5");
    due("halts(1)", x.halts(1), 1);
    due("halts(0)", x.halts(0), 16);
    due("halts(3)", x.halts(3), -1);
    due("halts(-1)", x.halts(-1), -1);
    x.tick(1);
    due("halted now", x.halts(1), 0);
    HaltRing sixty = Check.with("Ria01ha0t0q00591");
    due("after 60 ticks", sixty.halts(0), 60);
    HaltRing more = Check.with("Ria01ha0t0q00601");
    due("after 61 ticks", more.halts(0), -9);
    due("nothing changes", more.hart(0, 4), 0);
  }

  private static void soonest() {
    HaltRing x = Check.with("Ria01ij0cia01ia01ij0dhb0t0pp9");
    due("its place now", x.soonest(0), 1);
    due("trigger 1", x.soonest(1), -1);
    due("trigger -1", x.soonest(-1), -1);
    due("nothing changes", x.trigger(0, 2), 15);
    x.send(0, 0, 0, 0);
    due("the order halts it in the same tick with each place", x.soonest(0), 0);
    x.tick(1);
    due("halted already", x.soonest(0), 0);
    HaltRing sleeps = Check.with("Rizha0t0pa1");
    sleeps.set(0, 0, 5, 0, 1, false); sleeps.tick(1);
    due("a hart that sleeps for ever", sleeps.soonest(0), -9);
    HaltRing chained = Check.with("Ria01ia01ia01ha0T0q09991T0pa9t0q09991");
    due("unchained it halts only with the one before it", chained.soonest(1), -9);
    due("the first is free", chained.soonest(0), 0);
    due("the last is the second's partner", chained.soonest(2), -9);
  }

  private static void all() {
    HaltRing x = Check.with("Ria01ha0ha1ha1");
    due("all(0)", x.all(0), -9);
    due("all(7)", x.all(7), 2);
    due("all(3)", x.all(3), 2);
    due("all(5)", x.all(5), 3);
    due("all(6)", x.all(6), -9);
    due("all(8)", x.all(8), -2);
    due("all(-1)", x.all(-1), -2);
    due("no orders stay", x.count(5), 0);
    for (int i = 0; i < 8; i++) x.send(1, 0, 0, 0);
    due("as if the queue had room", x.all(3), 2);
    due("count(5)", x.count(5), 8);
    HaltRing halted = Check.with("Ribha0ha0");
    due("the program halts them", halted.all(0), 1);
    halted.tick(1);
    due("halted now", halted.all(0), 0);
    due("halted now, whatever is sent", halted.all(3), 0);
    due("without harts", new HaltRing().all(0), 0);
    due("without harts", new HaltRing().all(1), -2);
    HaltRing sixty = Check.with("Ria01ha0t0q00591");
    due("60 ticks", sixty.all(0), 60);
    sixty.set(0, 1, 0, 60, 1, false);
    due("61 ticks", sixty.all(0), -9);
  }

  private static void crew() {
    HaltRing x = Check.with("Ria01ha0ha1ha1");
    due("0 and 1, with the group of 1", x.crew(), 3);
    HaltRing y = Check.with("Ria01ha1ha1ha1ha1");
    due("the first alone", y.crew(), 1);
    HaltRing z = Check.with("Ribha0ha0");
    due("nobody: as few ticks, fewer harts", z.crew(), 0);
    HaltRing last = Check.with("Ria01ha1ha0ha1ha0");
    due("ticks before harts, harts before numbers", last.crew(), 11);
    due("no harts", new HaltRing().crew(), 0);
    HaltRing two = Check.with("Ria01ha0ha2ha2ha0");
    due("hart 3 takes 4 ticks: 1 or 2 alike, the smaller set", two.crew(), 11);
    // the harts 0 and 1 break at tick 3; hart 2 meets its chain at tick 3 if neither of them wrote cell 0 at tick 2
    HaltRing fewer = Check.with("Ria01iw00ibia11il00ia11ia11ij1gha0ha0hd0T2pf1t2q00001");
    int[] ticks = {-9, -9, -9, 3, 3, 3, 3, 3};
    for (int set = 0; set < 8; set++) due("all(" + set + ")", fewer.all(set), ticks[set]);
    due("a larger number with fewer harts", fewer.crew(), 4);
  }

  private static void judge() {
    HaltRing x = Check.with("Ria15iziw17hb1ha0");
    due("n 0", x.judge(0, 0), -2);
    due("n 4", x.judge(4, 0), -2);
    due("negative", x.judge(1, -1), -2);
    due("7 digits", x.judge(1, 1000000), -2);
    due("13 digits", x.judge(2, 1000000000000L), -2);
    due("19 digits", x.judge(3, 1000000000000000000L), -2);
    due("MIN", x.judge(3, Long.MIN_VALUE), -2);
    due("leading zeros", x.judge(2, 300000), 0);
    due("nothing", x.judge(1, 0), 0);
    due("statement 8", x.judge(1, 800000), 0);
    due("1 00", x.judge(1, 100000), 0);
    due("1 99", x.judge(1, 199000), -9);
    due("1 with a rest", x.judge(1, 101001), 0);
    due("2", x.judge(1, 221000), -9);
    due("2 order 3", x.judge(1, 231000), 0);
    due("2 hart 2", x.judge(1, 202000), 0);
    due("2 with a rest", x.judge(1, 201010), 0);
    due("3 runs", x.judge(1, 300000), -9);
    due("3 sleeps not", x.judge(1, 301000), 0);
    due("3 with a rest", x.judge(1, 300100), 0);
    due("3 hart 2", x.judge(1, 320000), 0);
    due("a tick, then it sleeps", x.judge(2, 101000301000L), -9);
    due("a tick, then register 1 of hart 1", x.judge(3, 101000411005411006L), 2);
    due("4 register 4", x.judge(1, 404000), 0);
    due("4 hart 2", x.judge(1, 420000), 0);
    due("halt, two ticks, halted", x.judge(3, 201000102000312000L), -9);
    due("halt, one tick, halted", x.judge(3, 201000101000312000L), 2);
    due("three ticks, cell 7", x.judge(2, 103000507005L), 1);
    due("5 digit 2", x.judge(1, 501000), 0);
    due("5 cell 7", x.judge(1, 570000), -9);
    due("5 cell 8", x.judge(1, 580000), 0);
    due("6", x.judge(1, 600000), -9);
    due("6 error 1", x.judge(1, 610000), 0);
    due("6 with a rest", x.judge(1, 601000), 0);
    due("6 with a rest", x.judge(1, 600001), 0);
    due("7", x.judge(1, 700100), -9);
    due("7 not", x.judge(1, 700200), 0);
    due("7 with a rest", x.judge(1, 700101), 0);
    due("7 with a rest", x.judge(1, 700110), 0);
    due("7 hart 2", x.judge(1, 720000), 0);
    x.poke(3, 123);
    due("5", x.judge(1, 530123), -9);
    due("nothing changes", x.hart(1, 0), 0);
    due("nothing on its way", x.count(5), 0);
    for (int i = 0; i < 7; i++) x.send(1, 0, 0, 0);
    due("the eighth is possible, the ninth not", x.judge(2, 200000200000L), 1);
    HaltRing counted = Check.with("Ria01ha0");
    due("25 ticks", counted.judge(2, 125000400025L), -9);
    HaltRing far = Check.with("R" + "ia00".repeat(16) + "hp0");
    due("place 16", far.judge(2, 101000701600L), -9);
    due("without harts", new HaltRing().judge(1, 300000), 0);
  }

  private static void see() {
    HaltRing x = new HaltRing();
    due("n -1", x.see(-1, 0, 0), -2);
    due("n 10", x.see(10, 0, 0), -2);
    due("what -1", x.see(0, -1, 0), -2);
    due("what 3", x.see(0, 3, 0), -2);
    due("place 16", x.see(0, 0, 16), -2);
    due("mode 3", x.see(0, 1, 3), -2);
    due("register 1000", x.see(0, 2, 1000), -2);
    due("v -1", x.see(0, 2, -1), -2);
    due("see(9, 0, 15)", x.see(9, 0, 15), 1);
    due("see(0, 1, 2)", x.see(0, 1, 2), 2);
    due("see(0, 2, 999)", x.see(0, 2, 999), 3);
    for (int i = 4; i <= 6; i++) due("see", x.see(0, 0, 0), i);
    due("the seventh", x.see(0, 0, 0), -4);
    due("range before room", x.see(10, 0, 0), -2);
    due("count(11)", x.count(11), 6);
    due("no act", x.count(10), 0);
  }

  private static void unsee() {
    HaltRing x = new HaltRing();
    due("unsee()", x.unsee(), 0);
    x.see(0, 0, 0); x.see(0, 0, 1);
    due("unsee()", x.unsee(), 2);
    due("unsee()", x.unsee(), 0);
    due("count(11)", x.count(11), 0);
  }

  private static void which() {
    HaltRing x = Check.with("Ria01ia01izibha0hb0hc0hd0");
    due("no sights", x.which(), 15);
    x.see(0, 0, 1);
    due("place 1 now", x.which(), 2);
    x.unsee(); x.see(1, 2, 1);
    due("register 0 is 1 after a tick", x.which(), 3);
    x.see(2, 1, 1);
    due("and sleeps after two", x.which(), 2);
    x.unsee(); x.see(1, 1, 2);
    due("halted after one", x.which(), 8);
    x.unsee(); x.see(9, 1, 1);
    due("asleep after nine", x.which(), 7);
    x.see(8, 1, 0);
    due("none", x.which(), 0);
    x.unsee(); x.see(0, 2, 1); x.tick(1);
    due("from the state at the time of the question", x.which(), 3);
    due("which() without harts", new HaltRing().which(), 0);
  }

  private static void share() {
    HaltRing one = Check.with("Ria01ha0t0pa1");
    due("one trigger: 20 ticks", one.share(0, true), 20);
    due("below", one.share(0, false), 1);
    due("trigger 1", one.share(1, true), -1);
    due("trigger -1", one.share(-1, false), -1);
    due("nothing changes", one.trigger(0, 5), 1);
    HaltRing twins = Check.with("Ria01ha0t0pa1t0pa1t0pa1");
    for (int t = 0; t < 3; t++) {
      due("three alike", twins.share(t, true), 20);
      due("below", twins.share(t, false), 3);
    }
    int[][] alike = {{5, 1}, {4, 1}, {10, 3}};
    for (int n = 4; n <= 6; n++) {
      HaltRing many = Check.with("Ria01ha0" + "t0pa1".repeat(n));
      due(n + " alike", many.share(n - 1, true), alike[n - 4][0]);
      due(n + " alike, below", many.share(0, false), alike[n - 4][1]);
    }
    HaltRing chain = Check.with("Ria01ha0T0pa1t0q00001");
    due("a chain needs both", chain.share(0, true), 10);
    due("below", chain.share(0, false), 1);
    due("the other", chain.share(1, true), 10);
    HaltRing no = Check.with("Rha0t0pa1");
    due("no program", no.share(0, true), 0);
    due("0 is 0 / 1", no.share(0, false), 1);
    HaltRing negative = Check.with("Rij1bia11iw17izibhb0hd0hd0hd0t0pc1");
    // hart 0 writes cell 7 at tick 2 and sleeps at 3; the others sleep at 1, wake at 2, break at 3: halted at 3 to 20,
    // 3 * 18; hart 0 stays asleep. With the trigger hart 0 is halted at 2 to 20, 19, and the others sleep on.
    due("19 - 54", negative.share(0, true), 19 - 54);
    due("below", negative.share(0, false), 1);
  }

  private static void lost() {
    HaltRing x = Check.with("Ria01ha0ha0");
    due("x -1", x.lost(-1, true), -2);
    due("x 11", x.lost(11, false), -2);
    due("nothing on its way", x.lost(0, true), 0);
    due("0 / 1", x.lost(0, false), 1);
    x.send(0, 0, 0, 0);
    due("one of two harts", x.lost(0, true), 0);
    x.send(0, 1, 0, 0);
    due("all lost", x.lost(10, true), 0);
    due("all lost, below", x.lost(10, false), 1);
    due("none lost", x.lost(0, true), 1);
    due("none lost, below", x.lost(0, false), 1);
    due("9/10 squared", x.lost(1, true), 81);
    due("below", x.lost(1, false), 100);
    due("2/10 squared in lowest terms", x.lost(8, true), 1);
    due("below", x.lost(8, false), 25);
    x.send(1, 0, 0, 0);
    due("the resume must be lost: 8/10 * 8/10 * 2/10", x.lost(2, true), 16);
    due("below", x.lost(2, false), 125);
    due("nothing changes", x.count(5), 3);
    due("without harts", new HaltRing().lost(5, true), 1);
    due("without harts, below", new HaltRing().lost(5, false), 1);
    HaltRing eight = Check.with("Ria01ha0ha0ha0ha0");
    for (int i = 0; i < 8; i++) eight.send(0, i % 4, 0, 0);
    due("(1 - 1/100) ^ 4", eight.lost(1, true), 99 * 99 * 99 * 99);
    due("below", eight.lost(1, false), 100000000);
    HaltRing ten = Check.with("Ria01ha0t0q00091");
    due("halted after 10 ticks", ten.lost(3, true), 1);
    ten.set(0, 1, 0, 10, 1, false);
    due("halted after 11", ten.lost(3, true), 0);
  }

  private static void seed() {
    HaltRing x = new HaltRing();
    due("seed(MIN)", x.seed(Long.MIN_VALUE), 0);
    due("seed(MAX)", x.seed(Long.MAX_VALUE), Long.MIN_VALUE);
    due("seed(-1)", x.seed(-1), Long.MAX_VALUE);
    due("no act", x.count(10), 0);
  }

  private static void drawn() {
    HaltRing x = Check.with("Ria01ha0ha1ha1");
    due("m 0", x.drawn(0), -2);
    due("m 21", x.drawn(21), -2);
    due("an error leaves the seed", x.seed(12345), 0);
    HaltRing real = Check.with("Ria01ha0ha1ha1");
    long s = 12345;
    int sum = 0;
    for (int i = 0; i < 20; i++) {
      s = s * 6364136223846793005L + 1442695040888963407L;
      int v = (int) (s >>> 33);
      if (real.count(5) < 8) real.send(v % 3, v / 4 % 3, 0, 0);
      sum += real.tick(1);
    }
    due("drawn(20)", x.drawn(20), sum);
    due("the seed", x.seed(7), s);
    due("nothing else changes", x.count(5) + x.count(4) + x.count(10) + x.hart(0, 4), 0);
    HaltRing none = new HaltRing();
    due("without harts", none.drawn(2), 0);
    due("the seed", none.seed(0), 1442695040888963407L * 6364136223846793005L + 1442695040888963407L);
    HaltRing full = Check.with("Ria01ha0");
    for (int i = 0; i < 8; i++) full.send(0, 0, 0, 0);
    due("a full queue: one halts, none is sent", full.drawn(1), 1);
  }

  private static void keep() {
    HaltRing x = Check.with("Ria01ha0ha0");
    due("keep(2)", x.keep(2), -1);
    due("keep(-1)", x.keep(-1), -1);
    due("keep(1)", x.keep(1), 2);
    due("slot 0 is empty", x.again(0), -3);
    due("no act", x.count(10), 0);
    due("without harts", new HaltRing().keep(0), 0);
    x.tick(1);
    due("keep(1)", x.keep(1), 2);
    x.tick(1);
    due("again(1)", x.again(1), 2);
    due("the later one", x.hart(0, 4), 1);
  }

  private static void again() {
    HaltRing x = Check.with("Ria01ia01iw03ha0t0pc5");
    due("again(2)", x.again(2), -1);
    due("again(-1)", x.again(-1), -1);
    due("again(0)", x.again(0), -3);
    x.tick(2); x.poke(5, 55); x.buffer(0, 111); x.send(3, 0, 0, 0); x.send(3, 0, 0, 0); x.keep(0);
    x.tick(5); x.poke(5, 1); x.buffer(0, 0); x.clear(); x.set(0, 1, 1, 1, 1, true); x.keep(1);
    due("again(0)", x.again(0), 1);
    dueHart(x, 0, 2, 0, 0, 0, 2);
    int[] row = {0, 0, 2, 0, 5, 5, 0};
    for (int w = 0; w < 7; w++) due("trigger(0, " + w + ")", x.trigger(0, w), row[w]);
    due("cell(5)", x.cell(5), 55);
    due("cell(3)", x.cell(3), 0);
    due("orders", x.count(5), 1);
    due("age", x.order(0, 2), 0);
    due("error", x.count(6), 1);
    due("buffer", x.count(8), 111);
    due("acts", x.count(10), 0);
    due("undo()", x.undo(), -3);
    x.tick(1);
    due("again(0) a second time", x.again(0), 1);
    due("pc", x.hart(0, 0), 2);
    due("again(1)", x.again(1), 1);
    due("kind", x.trigger(0, 1), 1);
    HaltRing y = Check.with("Riziw07ha0ha0ha0");
    y.tick(1); y.send(0, 0, 0, 0); y.send(3, 1, 2, 0); y.tick(2); y.keep(0);
    y.again(0);
    due("the mark", y.hart(0, 3), 1);
    due("the cause", y.hart(0, 2), 1);
    due("the code", y.order(1, 3), 4);
    y.tick(2); y.clear(); y.send(4, 0, 2, 345); y.keep(0);
    y.again(0); y.tick(4);
    due("register and value of an order", y.hart(0, 6), 345);
    y.send(3, 0, 2, 0); y.tick(1); y.keep(0);
    y.again(0); y.tick(3);
    due("what a read took", y.count(7), 345);
    y.keep(0); y.send(3, 0, 0, 0); y.tick(4);
    due("data then", y.count(7), 0);
    y.again(0);
    due("data", y.count(7), 345);
  }

  private static void count() {
    HaltRing x = Check.with("Ria01ibha0ha0hb0t0pa9t0pb9");
    x.tick(1); x.buffer(0, 100); x.buffer(1, 800); x.see(0, 0, 0); x.send(4, 2, 1, 5); x.send(4, 2, 1, 5);
    int[] row = {26, 2, 3, 2, 4, 1, 1, 0, 100, 800, 5, 1};
    for (int what = 0; what <= 11; what++) due("count(" + what + ")", x.count(what), row[what]);
    x.tick(1); x.tick(3); x.clear(); x.send(3, 2, 1, 0); x.tick(4);
    due("count(7)", x.count(7), 5);
    due("count(12)", x.count(12), -2);
    due("count(-1)", x.count(-1), -2);
  }
}
