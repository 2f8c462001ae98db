/** The boundaries of what a hart does in a tick: PROGRAM, HARTS, BUS and TRIGGERS of the description, part 2 of A TICK. */
public final class HartBoundsTest extends Bounds {
  private static final String PLACE = "abcdefghijklmnop";

  public static void main(String[] args) {
    begin("bounds of the harts");
    add();
    decrease();
    copy();
    loadAndStore();
    jump();
    sleepAndBreak();
    places();
    emptyProgram();
    ascending();
    matches();
    counts();
    chains();
    noFurther();
    end();
  }

  /** The registers of the only hart after one instruction, from these registers on; the place is behind it then. */
  private static void dueRegisters(String instruction, int[] before, int... after) {
    HaltRing x = step(halted("Ri" + instruction + "ha0", before));
    dueHart(instruction, x, 0, 1, 0, 0, 0, after[0], after[1], after[2], after[3]);
  }

  /** One instruction changes register r from one number to another, and leaves the others. */
  private static void dueChange(String instruction, int r, int from, int to) {
    int[] before = {101, 202, 303, 404};
    int[] after = before.clone();
    before[r] = from;
    after[r] = to;
    dueRegisters(instruction, before, after);
  }

  private static void add() {
    sentence("a r v: register r becomes (r + v) % 1000 (v is 0 to 9)");
    int[][] rows = {{0, 0, 0}, {0, 9, 9}, {990, 9, 999}, {991, 9, 0}, {999, 9, 8}, {998, 1, 999}, {999, 1, 0}, {999, 0, 999}};
    for (int[] row : rows) {
      for (int r = 0; r <= 3; r++) dueChange("a" + r + row[1], r, row[0], row[2]);
    }
  }

  private static void decrease() {
    sentence("d r: register r decreases by 1, but not below 0");
    int[][] rows = {{0, 0}, {1, 0}, {2, 1}, {999, 998}};
    for (int[] row : rows) {
      for (int r = 0; r <= 3; r++) dueChange("d" + r, r, row[0], row[1]);
    }
  }

  private static void copy() {
    sentence("c r s: register r becomes register s");
    for (int r = 0; r <= 3; r++) {
      for (int s = 0; s <= 3; s++) {
        int[] before = {0, 999, 1, 998};
        int[] after = before.clone();
        after[r] = before[s];
        dueRegisters("c" + r + s, before, after);
      }
    }
  }

  private static void loadAndStore() {
    sentence("l r m: register r becomes cell m (m is 0 to 7)");
    for (int r = 0; r <= 3; r++) {
      for (int m = 0; m <= 7; m++) {
        int[] after = {101, 202, 303, 404};
        HaltRing x = halted("Ril" + r + m + "ha0", after);
        x.poke(m, m == 0 ? 999 : 900 + m);
        step(x);
        after[r] = m == 0 ? 999 : 900 + m;
        dueHart("l" + r + m, x, 0, 1, 0, 0, 0, after[0], after[1], after[2], after[3]);
        due("the cell stays", x.cell(m), after[r]);
      }
    }
    sentence("w r m: cell m becomes register r (m is 0 to 7)");
    for (int r = 0; r <= 3; r++) {
      for (int m = 0; m <= 7; m++) {
        int[] row = {999, 1, 998, 500};
        HaltRing x = halted("Riw" + r + m + "ha0", row);
        for (int c = 0; c <= 7; c++) x.poke(c, 700 + c);
        step(x);
        dueHart("w" + r + m, x, 0, 1, 0, 0, 0, row[0], row[1], row[2], row[3]);
        for (int c = 0; c <= 7; c++) due("w" + r + m + ": cell(" + c + ")", x.cell(c), c == m ? row[r] : 700 + c);
      }
    }
  }

  private static void jump() {
    sentence("j r k: if register r is not 0, instruction k comes next (k is 0 to 15)");
    for (int r = 0; r <= 3; r++) {
      for (int v : new int[] {0, 1, 999}) {
        for (int k : new int[] {0, 1, 14, 15}) {
          // the other registers would jump if this one should not, and the other way round
          int other = v == 0 ? 1 : 0;
          int[] row = {other, other, other, other};
          row[r] = v;
          HaltRing x = step(halted("Ria00ij" + r + PLACE.charAt(k) + "hb0", row));
          dueHart("j" + r + PLACE.charAt(k) + " with " + v, x, 0, v == 0 ? 2 : k, 0, 0, 0, row[0], row[1], row[2], row[3]);
        }
      }
    }
    HaltRing self = step(halted("Ria00ij0bhb0", 5));
    due("to itself", self.hart(0, 0), 1);
    self.tick(9);
    due("and again", self.hart(0, 0), 1);
  }

  private static void sleepAndBreak() {
    sentence("z makes the hart sleep: a sleeping hart has the sleep mark");
    HaltRing z = Check.with("Rizha0");
    due("tick(1)", z.tick(1), 0);
    dueHart("z", z, 0, 1, 1, 0, 1);
    z.tick(99);
    dueHart("a sleeping hart does nothing", z, 0, 1, 1, 0, 1);
    sentence("b halts it with cause 3: the program counter increases by 1");
    HaltRing b = Check.with("Ribha0");
    due("tick(1)", b.tick(1), 1);
    dueHart("b", b, 0, 1, 2, 3, 0);
    b.tick(99);
    dueHart("a halted hart does nothing", b, 0, 1, 2, 3, 0);
    HaltRing last = Check.with("R" + "ia00".repeat(15) + "ibhp0");
    last.tick(1);
    dueHart("b as the last of 16", last, 0, 16, 2, 3, 0);
  }

  private static void places() {
    sentence("If its program counter is not the number of an instruction, it becomes 0 first");
    for (int length = 1; length <= 16; length++) {
      StringBuilder program = new StringBuilder("R");
      // instruction i writes register 0, which is 0, to cell 0, but the first and the last add 1 and 2
      for (int i = 0; i < length; i++) program.append(i == 0 ? "ia01" : i == length - 1 ? "ia02" : "iw00");
      for (int first : new int[] {length - 1, length}) {
        if (first > 15) continue;
        HaltRing x = Check.with(program + "h" + PLACE.charAt(first) + "0");
        due("before the tick", x.hart(0, 0), first);
        x.tick(1);
        boolean inside = first < length;
        dueHart(length + " instructions, from " + first, x, 0, inside ? first + 1 : 1, 0, 0, 0, inside && length > 1 ? 2 : 1);
      }
      HaltRing x = Check.with(program + "h" + PLACE.charAt(length - 1) + "0");
      x.tick(1);
      due("it can be a place behind the last instruction", x.hart(0, 0), length);
      x.tick(1);
      due("from behind the last instruction", x.hart(0, 0), 1);
    }
    HaltRing far = Check.with("Ria01hp0");
    far.tick(1);
    dueHart("from 15 with one instruction", far, 0, 1, 0, 0, 0, 1);
  }

  private static void emptyProgram() {
    sentence("each hart that runs does the following (nothing if the program is empty)");
    HaltRing x = Check.with("Rha0hp1t0pa1t1pp1t0q00001");
    due("tick(99)", x.tick(99), 0);
    dueHart("hart 0", x, 0, 0, 0, 0, 0);
    dueHart("hart 1 keeps its place", x, 1, 15, 0, 0, 0);
    for (int t = 0; t <= 2; t++) due("left of " + t, x.trigger(t, 5), 1);
    x.send(0, 1, 0, 0);
    due("orders still come", x.tick(2), 1);
    dueHart("hart 1", x, 1, 15, 2, 1, 0);
  }

  private static void ascending() {
    sentence("each hart that runs, in ascending order");
    HaltRing one = Check.with("Ria07iw00il10ha0hb0");
    one.tick(2);
    dueHart("hart 0 wrote 7, then hart 1 read it", one, 1, 3, 0, 0, 0, 0, 7);
    HaltRing two = Check.with("Ria07iw00il10hb0ha0");
    two.tick(2);
    dueHart("hart 0 read, then hart 1 wrote 7", two, 0, 3, 0, 0, 0, 0, 0);
    due("cell(0)", two.cell(0), 7);
    HaltRing four = Check.with("Riw00ha0ha0ha0ha0");
    for (int h = 0; h <= 3; h++) four.send(0, h, 0, 0);
    four.tick(5);
    for (int h = 0; h <= 3; h++) { four.send(4, h, 0, 100 + h); four.tick(5); }
    for (int h = 3; h >= 0; h--) { four.send(1, h, 0, 0); four.tick(1); }
    due("all are resumed in one tick", four.count(4), 0);
    due("and write in it, hart 3 last", four.cell(0), 103);
  }

  private static void matches() {
    sentence("kind 0 (it matches if the program counter is some place k)");
    for (int k = 0; k <= 15; k++) {
      for (int first : new int[] {k - 1, k, k + 1}) {
        if (first < 0 || first > 15) continue;
        HaltRing x = Check.with("R" + "ia01".repeat(16) + "h" + PLACE.charAt(first) + "0t0p" + PLACE.charAt(k) + "1");
        due("place " + k + " at " + first, x.tick(1), first == k ? 1 : 0);
        if (first == k) dueHart("halted by the trigger before the instruction", x, 0, k, 2, 2, 0, 0);
        else dueHart("not halted", x, 0, first + 1, 0, 0, 0, 1);
      }
    }
    sentence("If its program counter is not the number of an instruction, it becomes 0 first. Then its chains are examined");
    HaltRing behind = Check.with("Ria01hb0t0pb1");
    due("the place behind never matches", behind.tick(5), 0);
    due("left", behind.trigger(0, 5), 1);
    HaltRing zero = Check.with("Ria01hb0t0pa1");
    due("place 0 does", zero.tick(1), 1);
    due("the place is 0", zero.hart(0, 0), 0);
    sentence("kind 1 (it matches if some register has some value)");
    for (int r = 0; r <= 3; r++) {
      for (int[] row : new int[][] {{0, 0}, {0, 1}, {1, 0}, {999, 999}, {999, 998}, {998, 999}, {0, 999}, {100, 10}}) {
        int[] registers = {555, 555, 555, 555};
        registers[r] = row[1];
        HaltRing x = halted(String.format("Ria00ha0t0q%d%03d1", r, row[0]), registers);
        step(x);
        boolean match = row[0] == row[1];
        dueHart("register " + r + " is " + row[1] + ", the trigger's " + row[0], x, 0, match ? 0 : 1, match ? 2 : 0, match ? 2 : 0);
      }
    }
  }

  private static void counts() {
    sentence("the number left of its first trigger decreases by 1; if it is 0 then, it is set to the count again, the hart is halted");
    for (int count = 1; count <= 9; count++) {
      HaltRing x = Check.with("Ria01ha0t0pa" + count);
      for (int round = 0; round < 2; round++) {
        for (int n = 1; n < count; n++) {
          due("count " + count + ", match " + n, x.tick(1), 0);
          due("left", x.trigger(0, 5), count - n);
        }
        due("count " + count + ", the last match", x.tick(1), 1);
        due("left is the count again", x.trigger(0, 5), count);
        due("the count stays", x.trigger(0, 4), count);
        dueHart("halted with cause 2, without an instruction", x, 0, 0, 2, 2, 0, (count - 1) * (round + 1));
        // the resume reaches the hart in the tick of the next match: with count 1 it is halted again in it
        x.send(1, 0, 0, 0);
      }
    }
  }

  private static void chains() {
    sentence("a chain matches if all its triggers match: chains of one to six");
    for (int size = 1; size <= 6; size++) {
      StringBuilder good = new StringBuilder("Ria01ha0");
      for (int t = 0; t < size; t++) good.append(t < size - 1 ? "T" : "t").append(t % 2 == 0 ? "0pa" : "0q0000").append(t + 1);
      due("all of " + size + " match", Check.with(good.toString()).tick(1), 1);
      for (int t = 0; t < size; t++) {
        HaltRing x = Check.with(good.toString());
        x.set(t, 1, 0, 5, 1, t < size - 1);
        due("number " + t + " of " + size + " does not match", x.tick(1), 0);
      }
      HaltRing x = Check.with(good.toString());
      x.set(0, 0, 0, 0, 2, size > 1);
      x.tick(1);
      due("the first counts", x.trigger(0, 5), 1);
      for (int t = 1; t < size; t++) due("number " + t + " does not count", x.trigger(t, 5), t + 1);
    }
    sentence("it is joined to the trigger with the next number if that one belongs to the same hart (otherwise this has no effect)");
    due("the next is another hart's", Check.with("Ria01ha0hb0T0pa1t1q09991").tick(1), 1);
    due("a later one is not joined", Check.with("Ria01ha0hb0T0pa1t1q09991t0q09991").tick(1), 1);
    HaltRing later = Check.with("Ria01ha0hb0t0q09991T1q09991t0pa1");
    due("a later one is a chain of its own", later.tick(1), 1);
    due("it halts hart 0", later.count(4), 1);
    due("the last of six has no next", Check.with("Ria01ha0" + "t0q09991".repeat(5) + "T0pa1").tick(1), 1);
    due("the only one has no next", Check.with("Ria01ha0T0pa1").tick(1), 1);
    HaltRing first = Check.with("Ria01ha0hb0t1q09991t0pa1T1q09991");
    due("the last is not joined to the first", first.tick(1), 1);
    HaltRing parted = Check.with("Ria01ha0T0pa1t0q09991");
    due("joined", parted.ahead(1, 0, 1), 0);
    parted.set(0, 0, 0, 0, 1, false);
    due("parted by set()", parted.ahead(1, 0, 1), 2);
    parted.set(0, 0, 0, 0, 1, true);
    due("joined by set()", parted.ahead(1, 0, 1), 0);
  }

  private static void noFurther() {
    sentence("the hart is halted with cause 2, no further chains are examined, and no instruction is executed");
    HaltRing x = Check.with("Ria01ha0t0q09995t0pa2t0pa1T0pa9t0q00009t0pa9");
    due("tick(1)", x.tick(1), 1);
    int[] left = {5, 1, 1, 9, 9, 9};
    for (int t = 0; t <= 5; t++) due("left of " + t, x.trigger(t, 5), left[t]);
    dueHart("halted", x, 0, 0, 2, 2, 0, 0);
    sentence("Otherwise (no halt) the next chain is examined");
    x.set(2, 0, 0, 0, 3, false); x.send(1, 0, 0, 0);
    x.set(1, 0, 0, 0, 3, false);
    due("tick(1)", x.tick(1), 0);
    int[] then = {5, 2, 2, 8, 9, 8};
    for (int t = 0; t <= 5; t++) due("left of " + t, x.trigger(t, 5), then[t]);
    dueHart("goes on", x, 0, 1, 0, 0, 0, 1);
    sentence("its chains: those of other harts are not examined");
    HaltRing other = Check.with("Ria01ia01hb0ha0t1pa5t0pb5");
    other.tick(1);
    due("hart 1's", other.trigger(0, 5), 4);
    due("hart 0's", other.trigger(1, 5), 4);
    other.send(0, 0, 0, 0); other.tick(2);
    due("a halted hart's are not examined", other.trigger(1, 5), 4);
  }
}
