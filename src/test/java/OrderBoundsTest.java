/** The boundaries of the debug module: orders that are sent, dropped, on their way, and back (part 1 of A TICK). */
public final class OrderBoundsTest extends Bounds {
  /** A breakpoint, then a loop that counts in register 0. */
  private static final String BREAKS = "Ribia01ij0b";

  public static void main(String[] args) {
    begin("bounds of the orders");
    beginning();
    room();
    droppedByError();
    droppedByAnother();
    ages();
    inOrder();
    halt();
    resume();
    reset();
    notHalted();
    read();
    write();
    buffered();
    bufferAsItIsThen();
    bufferFails();
    back();
    failedOnce();
    onItsWay();
    end();
  }

  private static void beginning() {
    sentence("The module has an error (0 at the beginning), data (0), a buffer of two instructions (both empty), and a queue");
    HaltRing x = Check.with("Rha0");
    for (int what = 5; what <= 9; what++) due("count(" + what + ")", x.count(what), 0);
    due("order(0, 0)", x.order(0, 0), UNKNOWN);
  }

  private static void room() {
    sentence("a queue of at most 8 orders that are on their way");
    for (int order = 0; order <= 2; order++) {
      HaltRing x = Check.with("Ria01ha0ha0");
      for (int n = 1; n <= 8; n++) {
        due("send", x.send(order, n % 2, 0, 0), 0);
        due("on their way", x.count(5), n);
      }
      due("the ninth", x.send(order, 0, 0, 0), FULL);
      due("on their way", x.count(5), 8);
      due("acts", x.count(10), 8);
      for (int n = 0; n < 8; n++) dueOrder("number " + n, x, n, order, (n + 1) % 2, 0, 0);
      due("order(8, 0)", x.order(8, 0), UNKNOWN);
      x.tick(3);
      due("all are back", x.count(5), 0);
      due("room again", x.send(order, 0, 0, 0), 0);
    }
    sentence("FULL if 8 orders are on their way (also if this one would be dropped)");
    for (int order = 0; order <= 5; order++) {
      int o = order;
      unchanged("send(" + o + ", ..) where another abstract order is on its way", Bounds::full, FULL, x -> x.send(o, 0, 0, 0));
      unchanged("send(" + o + ", ..) with an error", () -> failed(8), FULL, x -> x.send(o, 0, 0, 0));
    }
    HaltRing seven = failed(7);
    due("with 7 it is dropped and answers the error", seven.send(3, 0, 0, 0), 4);
    due("still 7", seven.count(5), 7);
    due("with 7 there is room for a halt", seven.send(0, 0, 0, 0), 4);
    due("8", seven.count(5), 8);
  }

  /** A system with the error 4, no abstract order on its way and n orders that are. */
  private static HaltRing failed(int n) {
    HaltRing x = Check.with("Ria01ha0ha0");
    x.send(3, 0, 0, 0); x.tick(3);
    for (int i = 0; i < n; i++) x.send(1, 1, 0, 0);
    return x;
  }

  private static void droppedByError() {
    sentence("if it is abstract and the error is not 0, it is dropped");
    for (int error : new int[] {1, 3, 4}) {
      for (int order = 0; order <= 5; order++) {
        HaltRing x = withError(error);
        int before = x.count(5);
        int acts = x.count(10);
        due("the error is " + error, x.count(6), error);
        due("order " + order + " answers the error", x.send(order, 0, 0, 0), error);
        due("on their way, after order " + order, x.count(5), order < 3 ? before + 1 : before);
        due("the error stays", x.count(6), error);
        due("it is an act", x.count(10), Math.min(14, acts + 1));
        due("which is undone", x.undo(), Math.min(13, acts));
        due("on their way", x.count(5), before);
      }
    }
    HaltRing none = withError(0);
    due("with the error 0 it is not", none.send(3, 0, 0, 0), 0);
    due("on its way", none.count(5), 1);
  }

  /** A halted hart, an error, and nothing on its way. */
  private static HaltRing withError(int error) {
    HaltRing x = halted("Ria01ha0");
    x.tick(1);
    if (error == 1) { x.send(3, 0, 0, 0); x.send(3, 0, 0, 0); x.tick(2); }
    if (error == 3) { x.buffer(0, 800); x.send(5, 0, 0, 0); x.tick(2); }
    if (error == 4) { x.send(1, 0, 0, 0); x.tick(2); x.send(4, 0, 0, 5); x.tick(2); }
    return x;
  }

  private static void droppedByAnother() {
    sentence("if it is abstract and another abstract order is in the queue, it is dropped, and the error becomes 1");
    for (int first = 0; first <= 5; first++) {
      for (int second = 0; second <= 5; second++) {
        HaltRing x = Check.with("Ria01ha0ha0");
        due("the first", x.send(first, 1, 0, 0), 0);
        boolean drops = first >= 3 && second >= 3;
        due("order " + second + " after order " + first, x.send(second, 0, 0, 0), drops ? 1 : 0);
        due("on their way", x.count(5), drops ? 1 : 2);
        due("acts", x.count(10), 2);
        dueOrder("the first stays", x, 0, first, 1, 0, 0);
        if (!drops) dueOrder("appended with the age 0", x, 1, second, 0, 0, 0);
      }
    }
    sentence("another abstract order is in the queue: until it is back, also if it has reached its hart or has failed");
    for (int ticks = 0; ticks <= 3; ticks++) {
      HaltRing x = Check.with("Ria01ha0ha0");
      x.send(4, 0, 0, 0);
      for (int t = 0; t < ticks; t++) x.tick(1);
      x.clear();
      due("after " + ticks + " ticks", x.send(4, 1, 0, 0), ticks < 3 ? 1 : 0);
      due("on their way", x.count(5), 1);
    }
    HaltRing behind = Check.with("Ria01ha0ha0");
    for (int i = 0; i < 6; i++) behind.send(1, 0, 0, 0);
    behind.send(5, 0, 0, 0);
    due("the abstract one is the last of 7", behind.send(3, 0, 0, 0), 1);
  }

  private static void ages() {
    sentence("If the age is then the number of its hart plus 1, it reaches the hart. If the age is then the number of harts "
        + "plus 1, it is back and leaves the queue");
    for (int harts = 1; harts <= 4; harts++) {
      for (int h = 0; h < harts; h++) {
        for (int order = 0; order <= 5; order++) way(harts, h, order);
      }
    }
  }

  /** Follows an order to a hart, tick by tick; all harts are halted, but for the order halt, which finds them running. */
  private static void way(int harts, int h, int order) {
    HaltRing x = Check.with((order == 0 ? "Ria01" : BREAKS) + "ha0".repeat(harts));
    String name = "order " + order + " to hart " + h + " of " + harts;
    x.buffer(0, 139);
    if (order != 0) x.tick(1);
    x.send(order, h, order == 3 || order == 4 ? 3 : 0, order == 4 ? 999 : 0);
    for (int age = 0; age <= harts; age++) {
      dueOrder(name, x, 0, order, h, age, 0);
      boolean reached = age >= h + 1;
      int mode = order == 0 ? reached ? 2 : 0 : order == 1 && reached ? 0 : 2;
      // a reset hart meets the breakpoint again, in the same tick
      due(name + " at the age " + age + ": hart(h, 1)", x.hart(h, 1), mode);
      due(name + " at the age " + age + ": register 3", x.hart(h, 7), !reached ? 0 : order == 4 ? 999 : order == 5 ? 9 : 0);
      for (int other = 0; other < harts; other++) {
        if (other != h) due(name + ": another hart", x.hart(other, 1), order == 0 ? 0 : 2);
      }
      due(name + ": on its way", x.count(5), 1);
      x.tick(1);
    }
    due(name + ": back", x.count(5), 0);
    due(name + ": no error", x.count(6), 0);
    due(name + ": order(0, 0)", x.order(0, 0), UNKNOWN);
  }

  private static void inOrder() {
    sentence("for each order of the queue, in order");
    HaltRing x = Check.with("Ria01ha0");
    x.send(0, 0, 0, 0); x.send(1, 0, 0, 0);
    due("halt, resume", x.tick(1), 0);
    dueHart("it ran in the same tick", x, 0, 1, 0, 0, 0, 1);
    x.send(1, 0, 0, 0); x.send(0, 0, 0, 0);
    due("resume, halt", x.tick(1), 1);
    dueHart("halted", x, 0, 1, 2, 1, 0, 1);
    HaltRing y = Check.with(BREAKS + "ha0ha0");
    y.tick(1); y.send(1, 1, 0, 0); y.tick(1); y.send(0, 0, 0, 0); y.send(0, 1, 0, 0);
    due("one that was sent before is on its way before", y.tick(1), 1);
    due("hart 1 runs", y.hart(1, 1), 0);
    due("then it is halted", y.tick(1), 2);
    dueHart("by the order", y, 1, 2, 2, 1, 0, 1);
    sentence("it is back and leaves the queue: the others stay in order");
    HaltRing z = Check.with("Ria01ha0ha0");
    z.send(0, 0, 0, 0); z.send(1, 1, 0, 0); z.tick(1); z.send(2, 0, 0, 0); z.send(4, 1, 2, 7); z.tick(1); z.send(1, 0, 0, 0);
    int[][] five = {{0, 0, 2, 0}, {1, 1, 2, 0}, {2, 0, 1, 0}, {4, 1, 1, 0}, {1, 0, 0, 0}};
    for (int o = 0; o < 5; o++) dueOrder("five", z, o, five[o]);
    z.tick(1);
    int[][] three = {{2, 0, 2, 0}, {4, 1, 2, 4}, {1, 0, 1, 0}};
    for (int o = 0; o < 3; o++) dueOrder("three", z, o, three[o]);
    due("order(3, 0)", z.order(3, 0), UNKNOWN);
  }

  private static void halt() {
    sentence("halt halts it with cause 1 (a halted one stays as it is)");
    HaltRing runs = Check.with("Ria01ha0");
    runs.send(0, 0, 0, 0); runs.tick(1);
    dueHart("one that ran does nothing in this tick", runs, 0, 0, 2, 1, 0, 0);
    HaltRing sleeps = Check.with("Rizha0");
    sleeps.tick(1); sleeps.send(0, 0, 0, 0); sleeps.tick(1);
    dueHart("a halted hart has the mark if it slept", sleeps, 0, 1, 2, 1, 1);
    sleeps.send(0, 0, 0, 0); sleeps.tick(1);
    dueHart("and keeps it", sleeps, 0, 1, 2, 1, 1);
    String[] boards = {"Ria01ha0t0pa1", "Ribha0", "Ribia01hb1ha1"};
    for (int cause = 2; cause <= 4; cause++) {
      HaltRing x = Check.with(boards[cause - 2]);
      x.tick(1);
      due("cause before", x.hart(0, 2), cause);
      x.send(0, 0, 0, 0); x.tick(2);
      due("cause after", x.hart(0, 2), cause);
    }
  }

  private static void resume() {
    sentence("Resume: a halted hart is not halted any more; it sleeps if it has the sleep mark, otherwise it runs");
    HaltRing marked = Check.with("Rizia01ha0");
    marked.tick(1); marked.send(0, 0, 0, 0); marked.tick(1); marked.send(1, 0, 0, 0); marked.tick(1);
    dueHart("with the mark", marked, 0, 1, 1, 0, 1, 0);
    HaltRing plain = Check.with("Ribia01ha0");
    plain.tick(1); plain.send(1, 0, 0, 0); plain.tick(1);
    dueHart("without: it runs in the same tick", plain, 0, 2, 0, 0, 0, 1);
    HaltRing runs = Check.with("Ria01ia01ha0");
    runs.send(1, 0, 0, 0); runs.tick(1);
    dueHart("one that runs", runs, 0, 1, 0, 0, 0, 1);
    HaltRing sleeps = Check.with("Rizia01ha0");
    sleeps.tick(1); sleeps.send(1, 0, 0, 0); sleeps.tick(2);
    dueHart("one that sleeps", sleeps, 0, 1, 1, 0, 1, 0);
  }

  private static void reset() {
    sentence("Reset: the program counter is the first place, all registers are 0, the numbers left of its triggers are their "
        + "counts, it runs, without a sleep mark");
    HaltRing x = halted("Ria01ia12ia23hb1t0q00009t0pb9", 999, 999, 999, 999);
    x.send(2, 0, 0, 0); x.tick(1);
    dueHart("a halted one, which runs in the same tick", x, 0, 2, 0, 0, 0, 0, 2, 0, 0, 1, 1);
    HaltRing runs = Check.with("Ria01ia12ia23hc2");
    runs.tick(5); runs.send(2, 0, 0, 0); runs.tick(1);
    dueHart("one that runs", runs, 0, 3, 0, 0, 0, 0, 0, 3, 0, 2, 2);
    HaltRing sleeps = Check.with("Ria01ia01izha0");
    sleeps.tick(5); sleeps.send(2, 0, 0, 0); sleeps.tick(1);
    dueHart("one that sleeps", sleeps, 0, 1, 0, 0, 0, 1);
    HaltRing both = Check.with("Ria01ia01izha0");
    both.tick(5); both.send(0, 0, 0, 0); both.tick(1); both.send(2, 0, 0, 0); both.tick(1);
    dueHart("one that is halted and has the mark", both, 0, 1, 0, 0, 0, 1);
    HaltRing far = Check.with("Rib" + "hp0");
    far.tick(1);
    due("behind the breakpoint", far.hart(0, 0), 1);
    far.wipe(); far.send(2, 0, 0, 0);
    due("a first place behind the program: it becomes 0 and breaks again", far.tick(1), 1);
    HaltRing empty = Check.with("Rhp0");
    empty.send(2, 0, 0, 0); empty.tick(1);
    due("a first place and no program", empty.hart(0, 0), 15);
    sentence("the numbers left of its triggers: not those of another hart");
    HaltRing two = Check.with("Ria01ha0ha0t0pa9t1pa9t0q19995T1pa7");
    two.tick(3); two.send(2, 0, 0, 0);
    int[] before = {6, 6, 5, 4};
    for (int t = 0; t < 4; t++) due("left of " + t, two.trigger(t, 5), before[t]);
    two.tick(1);
    int[] after = {8, 5, 5, 3};
    for (int t = 0; t < 4; t++) due("left of " + t, two.trigger(t, 5), after[t]);
    dueHart("hart 1 is not reset", two, 1, 1, 0, 0, 0, 4);
  }

  private static void notHalted() {
    sentence("An abstract order to a hart that is not halted fails with code 4 and does nothing");
    for (String program : new String[] {"Ria00", "Riz"}) {
      for (int order = 3; order <= 5; order++) {
        HaltRing x = Check.with(program + "ha0ha0");
        x.tick(1); x.buffer(0, 119); x.buffer(1, 517);
        x.send(order, 0, order == 5 ? 0 : 1, order == 4 ? 999 : 0); x.tick(1);
        due("order " + order + ": the code", x.order(0, 3), 4);
        due("register 1", x.hart(0, 5), 0);
        due("cell 7", x.cell(7), 0);
        due("the mode stays", x.hart(0, 1), program.equals("Riz") ? 1 : 0);
        due("no error yet", x.count(6), 0);
        x.tick(1);
        due("no error at the age 2", x.count(6), 0);
        x.tick(1);
        due("the error at the age 3", x.count(6), 4);
        due("data", x.count(7), 0);
      }
    }
    sentence("An abstract order to a hart that is halted by an order before it in the same tick does not fail");
    HaltRing x = Check.with("Ria01ha0");
    x.tick(7); x.send(0, 0, 0, 0); x.send(3, 0, 0, 0); x.tick(1);
    due("the code", x.order(1, 3), 0);
    x.tick(1);
    due("data", x.count(7), 7);
    HaltRing y = halted("Ria01ha0", 5);
    y.send(1, 0, 0, 0); y.send(3, 0, 0, 0); y.tick(1);
    due("resumed before it: the code", y.order(1, 3), 4);
    HaltRing z = halted("Ria01ha0", 5);
    z.send(3, 0, 0, 0); z.send(1, 0, 0, 0); z.tick(2);
    due("resumed behind it: data", z.count(7), 5);
  }

  private static void read() {
    sentence("read takes the value of the register");
    for (int r = 0; r <= 3; r++) {
      for (int v : new int[] {0, 1, 999}) {
        int[] registers = {111, 222, 333, 444};
        registers[r] = v;
        HaltRing x = halted("Ria00ha0", registers);
        x.send(3, 0, r, 0); x.tick(1);
        due("data at the age 1", x.count(7), 0);
        x.tick(1);
        due("data of register " + r, x.count(7), v);
        due("the register stays", x.hart(0, 4 + r), v);
      }
    }
    sentence("data becomes the value that it took: when it reached the hart");
    HaltRing x = Check.with("Ria01ha0ha0ha0ha0");
    x.tick(6); x.send(0, 0, 0, 0); x.tick(1); x.send(3, 0, 0, 0); x.send(2, 0, 0, 0); x.tick(4);
    due("the register now", x.hart(0, 4), 4);
    due("not back", x.count(7), 0);
    x.tick(1);
    due("data", x.count(7), 6);
    x.send(0, 1, 0, 0); x.tick(2); x.send(3, 1, 3, 0); x.tick(5);
    due("data of a later read", x.count(7), 0);
  }

  private static void write() {
    sentence("write sets the register");
    for (int r = 0; r <= 3; r++) {
      for (int v : new int[] {0, 1, 999}) {
        int[] row = {111, 222, 333, 444};
        HaltRing x = halted("Ria00ha0", row);
        x.send(4, 0, r, v); x.tick(1);
        row[r] = v;
        dueHart("register " + r, x, 0, 0, 2, 1, 0, row[0], row[1], row[2], row[3]);
        x.tick(1);
        due("data stays", x.count(7), 0);
        due("no error", x.count(6), 0);
      }
    }
  }

  private static void buffered() {
    sentence("run the buffer executes the instructions of the buffer on this hart; the program counter does not change");
    int[][] rows = {
        {100, 991, 0, 0, 0, 991, 0, 0, 0}, {109, 991, 0, 0, 0, 0, 0, 0, 0}, {109, 990, 0, 0, 0, 999, 0, 0, 0}, {139, 0, 0, 0, 999, 0, 0, 0, 8},
        {200, 0, 1, 1, 1, 0, 1, 1, 1}, {230, 5, 5, 5, 1, 5, 5, 5, 0}, {200, 999, 0, 0, 0, 998, 0, 0, 0},
        {303, 1, 2, 3, 999, 999, 2, 3, 999}, {330, 0, 2, 3, 4, 0, 2, 3, 0}, {311, 1, 2, 3, 4, 1, 2, 3, 4},
        {400, 1, 2, 3, 4, 600, 2, 3, 4}, {437, 1, 2, 3, 4, 1, 2, 3, 607}, {407, 1, 2, 3, 4, 607, 2, 3, 4}};
    for (int[] row : rows) {
      HaltRing x = halted("Ria01ia01hb0", row[1], row[2], row[3], row[4]);
      x.poke(0, 600); x.poke(7, 607); x.buffer(0, row[0]); x.send(5, 0, 0, 0); x.tick(1);
      dueHart("buffer " + row[0], x, 0, 1, 2, 1, 0, row[5], row[6], row[7], row[8]);
      due("no code", x.order(0, 3), 0);
    }
    for (int how : new int[] {500, 507, 530, 537}) {
      HaltRing x = halted("Ria01ha0", 999, 0, 0, 998);
      x.buffer(0, how); x.send(5, 0, 0, 0); x.tick(2);
      int r = how / 10 % 10;
      due("buffer " + how, x.cell(how % 10), r == 0 ? 999 : 998);
      due("no error", x.count(6), 0);
    }
    sentence("until one is empty");
    int[][] both = {{0, 0, 0}, {0, 109, 0}, {105, 0, 5}, {105, 103, 8}};
    for (int[] row : both) {
      HaltRing x = halted("Ria01ha0", 0);
      x.buffer(0, row[0]); x.buffer(1, row[1]); x.send(5, 0, 0, 0); x.tick(1);
      dueHart("buffer " + row[0] + " " + row[1], x, 0, 0, 2, 1, 0, row[2]);
      x.tick(1);
      due("no error", x.count(6), 0);
    }
    HaltRing inOrder = halted("Ria01ha0", 3);
    inOrder.buffer(0, 310); inOrder.buffer(1, 101); inOrder.send(5, 0, 0, 0); inOrder.tick(1);
    dueHart("0, then 1", inOrder, 0, 0, 2, 1, 0, 4, 3);
  }

  private static void bufferAsItIsThen() {
    sentence("the instructions of the buffer (as it is then)");
    for (int changed = 0; changed <= 2; changed++) {
      HaltRing x = Check.with("Ria10ha0ha0");
      x.send(0, 1, 0, 0); x.tick(3);
      x.buffer(0, 101); x.send(5, 1, 0, 0);
      if (changed == 0) x.buffer(0, 102);
      x.tick(1);
      if (changed == 1) x.buffer(0, 103);
      x.tick(1);
      if (changed == 2) x.buffer(0, 104);
      x.tick(1);
      due("changed after " + changed + " ticks", x.hart(1, 4), changed == 0 ? 2 : changed == 1 ? 3 : 1);
    }
  }

  private static void bufferFails() {
    sentence("if one is j, z or b, the order fails with code 3 there; the program counter does not change");
    for (int how : new int[] {600, 609, 630, 639, 700, 800}) {
      for (int v : new int[] {0, 999}) {
        HaltRing first = halted("Ria01ia01hb0", v, 5, 5, v);
        first.buffer(0, how); first.buffer(1, 119); first.send(5, 0, 0, 0); first.tick(1);
        due("first " + how, first.order(0, 3), 3);
        dueHart("nothing behind it is executed", first, 0, 1, 2, 1, 0, v, 5, 5, v);
        due("no error yet", first.count(6), 0);
        first.tick(1);
        due("the error", first.count(6), 3);
        HaltRing second = halted("Ria01ia01hb0", v, 5, 5, v);
        second.buffer(0, 119); second.buffer(1, how); second.send(5, 0, 0, 0); second.tick(1);
        due("second " + how, second.order(0, 3), 3);
        dueHart("what stands before it is executed", second, 0, 1, 2, 1, 0, v, 14, 5, v);
        second.tick(1);
        due("the error", second.count(6), 3);
      }
    }
    sentence("until one is empty: what stands behind it does not fail");
    HaltRing x = halted("Ria01ha0");
    x.buffer(1, 800); x.send(5, 0, 0, 0); x.tick(1);
    due("the code", x.order(0, 3), 0);
    x.tick(1);
    due("the error", x.count(6), 0);
    sentence("An abstract order to a hart that is not halted fails with code 4, not with that of its buffer");
    HaltRing runs = Check.with("Ria01ha0");
    runs.buffer(0, 700); runs.send(5, 0, 0, 0); runs.tick(2);
    due("the error", runs.count(6), 4);
  }

  private static void back() {
    sentence("if it failed, the error becomes its code if the error is 0");
    HaltRing kept = Check.with("Ria01ha0");
    kept.send(3, 0, 0, 0); kept.tick(1); kept.send(3, 0, 0, 0);
    due("the error is 1", kept.count(6), 1);
    kept.tick(1);
    due("and stays 1", kept.count(6), 1);
    HaltRing cleared = Check.with("Ria01ha0");
    cleared.send(3, 0, 0, 0); cleared.tick(1); cleared.send(3, 0, 0, 0);
    due("clear()", cleared.clear(), 1);
    cleared.tick(1);
    due("cleared before it is back", cleared.count(6), 4);
    due("clear()", cleared.clear(), 4);
    cleared.tick(9);
    due("it comes once", cleared.count(6), 0);
    sentence("otherwise, if it is a read, data becomes the value that it took");
    HaltRing x = halted("Ria01ha0", 7, 8);
    x.send(3, 0, 0, 0); x.send(3, 0, 1, 0); x.tick(2);
    due("also with an error", x.count(7), 7);
    due("which stays", x.count(6), 1);
    x.clear(); x.send(4, 0, 2, 999); x.tick(2);
    due("not if it is a write", x.count(7), 7);
    x.buffer(0, 102); x.send(5, 0, 0, 0); x.tick(2);
    due("not if it runs the buffer", x.count(7), 7);
    x.send(1, 0, 0, 0); x.tick(2); x.send(3, 0, 1, 0); x.tick(2);
    due("not if the read failed", x.count(7), 7);
    due("the error", x.count(6), 4);
    for (int order = 0; order <= 2; order++) { x.send(order, 0, 0, 0); x.tick(3); }
    due("the others change neither", x.count(6) * 1000 + x.count(7), 4007);
  }

  private static void failedOnce() {
    sentence("3 the code with which it failed (0: it has not failed)");
    for (int order = 0; order <= 5; order++) {
      HaltRing x = Check.with("Ria01ha0");
      x.send(3, 0, 3, 0); x.tick(1);
      dueOrder("a read that failed", x, 0, 3, 0, 1, 4);
      x.tick(1); x.clear(); x.send(0, 0, 0, 0); x.tick(2);
      x.send(order, 0, 0, 0);
      dueOrder("a later one has not", x, 0, order, 0, 0, 0);
      x.tick(1);
      dueOrder("nor when it reaches its hart", x, 0, order, 0, 1, 0);
      x.tick(1);
      due("no error", x.count(6), 0);
    }
  }

  /** Two harts, of which hart 1 is halted, and a write to it on its way: of 999 to register 3. */
  private static HaltRing writing() {
    HaltRing x = Check.with("Ria01ha0ha0");
    x.send(0, 1, 0, 0); x.tick(3); x.send(4, 1, 3, 999);
    return x;
  }

  /** Asks for the end of a way that goes on in some other state than that in which it began. */
  private static void dueWritten(String when, HaltRing x) {
    x.tick(2);
    dueHart(when, x, 1, 1, 2, 1, 0, 1, 0, 0, 999);
  }

  private static void onItsWay() {
    sentence("harts, cells, triggers, module and orders are as before: the register and the value of a write");
    HaltRing undone = writing();
    undone.tick(5); undone.send(4, 1, 2, 5); undone.undo(); undone.undo();
    dueWritten("after undo()", undone);
    HaltRing kept = writing();
    kept.keep(1); kept.tick(5); kept.send(4, 1, 2, 5); kept.again(1);
    dueWritten("after again()", kept);
    due("in a forecast", writing().ahead(2, 1, 7), 999);
    due("in judge()", writing().judge(2, 102000413999L), NONE);
    sentence("harts, cells, triggers, module and orders are as before: the value that a read took");
    HaltRing read = halted("Ria01ha0", 0, 0, 777);
    read.tick(1); read.send(3, 0, 2, 0); read.tick(1); read.keep(0);
    read.tick(1);
    due("data", read.count(7), 777);
    read.undo();
    due("data before", read.count(7), 0);
    read.tick(1);
    due("data after undo()", read.count(7), 777);
    read.send(3, 0, 0, 0); read.tick(2); read.again(0); read.tick(1);
    due("data after again()", read.count(7), 777);
    sentence("harts, cells, triggers, module and orders are as before: the code with which an order failed");
    HaltRing failed = Check.with("Ria01ha0");
    failed.send(3, 0, 0, 0); failed.tick(1); failed.keep(0);
    failed.tick(1); failed.clear(); failed.send(0, 0, 0, 0);
    for (int n = 0; n < 3; n++) failed.undo();
    dueOrder("after undo()", failed, 0, 3, 0, 1, 4);
    due("in judge()", failed.judge(2, 101000640000L), NONE);
    failed.tick(1);
    due("the error after undo()", failed.count(6), 4);
    failed.clear(); failed.send(0, 0, 0, 0); failed.again(0);
    dueOrder("after again()", failed, 0, 3, 0, 1, 4);
    failed.tick(1);
    due("the error after again()", failed.count(6), 4);
  }
}
