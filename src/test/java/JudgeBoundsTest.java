/** The boundaries of the statements of judge(), promise 22. */
public final class JudgeBoundsTest extends Bounds {
  public static void main(String[] args) {
    begin("bounds of the statements");
    firstDigit();
    ticks();
    orders();
    modes();
    registers();
    cells();
    errors();
    places();
    sequence();
    withoutHarts();
    end();
  }

  private static final int TRUE = NONE, FALSE = 0;

  /** A single statement, and what it answers. */
  private static void due(HaltRing x, int statement, int want) {
    due(String.format("judge(1, %06d)", statement), x.judge(1, statement), want);
  }

  /** A statement that is true is not like this any more if a digit that is to be 0 is not. */
  private static void dueZeros(HaltRing x, int statement, int... scales) {
    due(x, statement, TRUE);
    for (int scale : scales) {
      due(x, statement + scale, FALSE);
      due(x, statement + 9 * scale, FALSE);
    }
  }

  /** Hart 0 runs, hart 1 sleeps, hart 2 is halted, with the registers 0, 1, 999 and 500. */
  private static HaltRing three() {
    HaltRing x = Check.with("Ria31ij3aizibha0hc0hd0");
    x.tick(1);
    for (int r = 1; r <= 3; r++) { x.send(4, 2, r, r == 1 ? 1 : r == 2 ? 999 : 500); x.tick(4); }
    x.poke(0, 999); x.poke(6, 1); x.poke(7, 123);
    return x;
  }

  private static void firstDigit() {
    sentence("Each statement consists of six digits: the first is 1 to 7");
    HaltRing x = three();
    for (int first : new int[] {0, 8, 9}) {
      for (int rest : new int[] {0, 1, 1000, 10000, 11000, 99999}) due(x, first * 100000 + rest, FALSE);
    }
    for (int statement : new int[] {101000, 200000, 300000, 400000, 510000, 600000, 720400}) due(x, statement, TRUE);
  }

  private static void ticks() {
    sentence("1 n n 0 0 0: nn ticks pass (01 to 99)");
    HaltRing x = Check.with("Ria01ha0");
    dueZeros(x, 101000, 1, 10, 100);
    dueZeros(x, 199000, 1, 10, 100);
    due(x, 100000, FALSE);
    due(x, 110000, TRUE);
    for (int n : new int[] {1, 9, 10, 11, 90, 99}) {
      for (int v = n - 1; v <= n + 1; v++) {
        long row = (100000L + n * 1000) * 1000000 + 400000 + v;
        due("judge(2, " + row + ")", x.judge(2, row), v == n ? NONE : 1);
      }
    }
    due("three times 99 ticks", x.judge(3, 199000199000400198L), NONE);
  }

  private static void orders() {
    sentence("2 o h 0 0 0: order o (0 to 2) is sent to hart h");
    for (int harts = 1; harts <= 4; harts++) {
      HaltRing x = Check.with("Ria01" + "ha0".repeat(harts));
      for (int o = 0; o <= 9; o++) {
        for (int h = 0; h <= 9; h++) due(x, 200000 + o * 10000 + h * 1000, o <= 2 && h < harts ? TRUE : FALSE);
      }
      dueZeros(x, 220000 + (harts - 1) * 1000, 1, 10, 100);
    }
    HaltRing x = three();
    due("halt of hart 0, a tick, halted", x.judge(3, 200000101000302000L), NONE);
    due("resume of hart 2, 3 ticks, it runs", x.judge(3, 212000103000320000L), NONE);
    due("resume of hart 2, 2 ticks, it is still halted", x.judge(3, 212000102000322000L), NONE);
    due("reset of hart 1, 2 ticks, it sleeps again", x.judge(3, 221000102000311000L), NONE);
    due("reset of hart 2, 3 ticks, register 2", x.judge(3, 222000103000422000L), NONE);
    sentence("possible only if fewer than 8 orders are on their way");
    for (int orders = 5; orders <= 8; orders++) {
      HaltRing y = Check.with("Ria01ha0ha0");
      for (int i = 0; i < orders; i++) y.send(1, 1, 0, 0);
      due("judge(3, ..) with " + orders, y.judge(3, 200000200000200000L), orders <= 5 ? NONE : 8 - orders);
      due("after 3 ticks there is room", y.judge(2, 103000200000L), NONE);
      due("after 2 ticks there is not more", y.judge(2, 102000200000L), orders < 8 ? NONE : 1);
    }
    HaltRing error = Check.with("Ria01ha0");
    error.send(3, 0, 0, 0); error.send(3, 0, 0, 0);
    due("with an error", error.judge(3, 200000101000302000L), NONE);
  }

  private static void modes() {
    sentence("3 h x 0 0 0: hart h runs (x is 0), sleeps (1), is halted (2)");
    HaltRing x = three();
    for (int h = 0; h <= 9; h++) {
      for (int mode = 0; mode <= 9; mode++) due(x, 300000 + h * 10000 + mode * 1000, h <= 2 && mode == h ? TRUE : FALSE);
    }
    dueZeros(x, 300000, 1, 10, 100);
    dueZeros(x, 322000, 1, 10, 100);
  }

  private static void registers() {
    sentence("4 h r v v v: register r of hart h is vvv");
    HaltRing x = three();
    int[] row = {0, 1, 999, 500};
    for (int r = 0; r <= 9; r++) {
      for (int v : new int[] {0, 1, 2, 499, 500, 501, 998, 999}) due(x, 420000 + r * 1000 + v, r <= 3 && row[r] == v ? TRUE : FALSE);
    }
    for (int h = 0; h <= 9; h++) due(x, 400000 + h * 10000, h <= 2 ? TRUE : FALSE);
    for (int h = 0; h <= 9; h++) due(x, 402000 + h * 10000 + 999, h == 2 ? TRUE : FALSE);
  }

  private static void cells() {
    sentence("5 c 0 v v v: cell c is vvv");
    HaltRing x = three();
    int[] row = {999, 0, 0, 0, 0, 0, 1, 123};
    for (int c = 0; c <= 9; c++) {
      for (int v : new int[] {0, 1, 122, 123, 124, 998, 999}) due(x, 500000 + c * 10000 + v, c <= 7 && row[c] == v ? TRUE : FALSE);
    }
    dueZeros(x, 500999, 1000);
    dueZeros(x, 570123, 1000);
  }

  private static void errors() {
    sentence("6 x 0 0 0 0: the error is x");
    for (int error : new int[] {0, 1, 3, 4}) {
      HaltRing x = halted("Ria01ha0");
      if (error == 1) { x.send(3, 0, 0, 0); x.send(3, 0, 0, 0); }
      if (error == 3) { x.buffer(0, 700); x.send(5, 0, 0, 0); x.tick(2); }
      if (error == 4) { x.send(1, 0, 0, 0); x.send(3, 0, 0, 0); x.tick(2); }
      for (int digit = 0; digit <= 9; digit++) due(x, 600000 + digit * 10000, digit == error ? TRUE : FALSE);
      dueZeros(x, 600000 + error * 10000, 1, 10, 100, 1000);
    }
    HaltRing later = Check.with("Ria01ha0");
    later.send(3, 0, 0, 0);
    due("the error comes in tick 2", later.judge(3, 101000600000640000L), 2);
    due("the error comes in tick 2", later.judge(2, 102000640000L), NONE);
  }

  private static void places() {
    sentence("7 h p p 0 0: the program counter of hart h is pp");
    HaltRing x = Check.with("R" + "ia00".repeat(16) + "ha0hj0hk0hp0");
    int[] row = {0, 9, 10, 15};
    for (int h = 0; h <= 9; h++) {
      for (int p : new int[] {0, 1, 8, 9, 10, 11, 14, 15, 16, 90, 99}) {
        due(x, 700000 + h * 10000 + p * 100, h <= 3 && row[h] == p ? TRUE : FALSE);
      }
    }
    dueZeros(x, 700000, 1, 10);
    dueZeros(x, 731500, 1, 10);
    due("16, behind the last of 16 instructions", x.judge(2, 101000731600L), NONE);
    due("then 1", x.judge(2, 102000730100L), NONE);
  }

  private static void sequence() {
    sentence("Returns the position, from 0, of the first statement that is not like this, not possible or not true");
    HaltRing x = three();
    long good = 300000, bad = 301000, worse = 999999;
    due("1 good", x.judge(1, good), NONE);
    due("1 bad", x.judge(1, bad), 0);
    due("2 good", x.judge(2, good * 1000000 + good), NONE);
    due("good, bad", x.judge(2, good * 1000000 + bad), 1);
    due("bad, good", x.judge(2, bad * 1000000 + good), 0);
    due("bad, worse", x.judge(2, bad * 1000000 + worse), 0);
    long two = good * 1000000 + good;
    due("3 good", x.judge(3, two * 1000000 + good), NONE);
    due("good, good, bad", x.judge(3, two * 1000000 + bad), 2);
    due("good, good, worse", x.judge(3, two * 1000000 + worse), 2);
    due("good, bad, bad", x.judge(3, (good * 1000000 + bad) * 1000000 + bad), 1);
    due("the largest row of 18 digits", x.judge(3, 999999999999999999L), 0);
    sentence("leading zeros included, the first statement having the highest digits");
    due("a good one as the last of two", x.judge(2, good), 0);
    due("a good one as the last of three", x.judge(3, good), 0);
    due("two good ones as the last of three", x.judge(3, two), 0);
    sentence("from the present state on; the statements 1 and 2 are performed");
    HaltRing y = Check.with("Ria01ha0");
    y.tick(5);
    due("register 0 is 5", y.judge(1, 400005), NONE);
    due("then 6", y.judge(2, 101000400006L), NONE);
    due("each judge() begins at the present state", y.judge(2, 101000400006L), NONE);
    due("also after one that failed", y.judge(3, 150000200000999999L), 2);
    due("register 0 is 5", y.judge(1, 400005), NONE);
  }

  private static void withoutHarts() {
    sentence("hart h: there is none");
    HaltRing x = new HaltRing();
    for (int statement : new int[] {200000, 210000, 220000, 300000, 301000, 302000, 400000, 700000}) due(x, statement, FALSE);
    for (int statement : new int[] {101000, 199000, 500000, 570000, 600000}) due(x, statement, TRUE);
  }
}
