/**
 * The ranges of all arguments, at both ends and at the widest; which error is returned where several apply; and that a
 * call which is refused changes nothing.
 */
public final class ArgumentBoundsTest extends Bounds {
  /** No program, no harts, nothing. */
  private static final Setup EMPTY = HaltRing::new;
  private static final Setup BUSY = Bounds::busy;
  private static final Setup FULL_ONE = Bounds::full;
  private static final int[] NO_HART = {-1, 3, 4, MIN, MAX}, NO_TRIGGER = {-1, 5, 6, MIN, MAX};

  public static void main(String[] args) {
    begin("bounds of the arguments");
    systems();
    hart();
    trigger();
    cell();
    order();
    tick();
    send();
    sendValues();
    set();
    setInside();
    buffer();
    poke();
    forecasts();
    all();
    see();
    shareAndLost();
    drawn();
    slots();
    count();
    end();
  }

  /** The tests below count on these numbers. */
  private static void systems() {
    sentence("the systems that are asked");
    int[] busy = {21, 7, 3, 5, 1, 6, 0, 0, 129, 507, 14, 5};
    int[] full = {150, 7, 3, 5, 1, 8, 0, 0, 129, 507, 14, 6};
    for (int what = 0; what <= 11; what++) {
      due("busy: count(" + what + ")", busy().count(what), busy[what]);
      due("full: count(" + what + ")", full().count(what), full[what]);
    }
    dueOrder("an abstract order is on its way", busy(), 1, 3, 0, 2, 0);
  }

  private static void hart() {
    sentence("hart(): UNKNOWN if there is no such hart; OUTSIDE if what is out of range");
    refused("hart(?, 0)", BUSY, UNKNOWN, (x, h) -> x.hart(h, 0), NO_HART);
    refused("hart(?, 10)", BUSY, UNKNOWN, (x, h) -> x.hart(h, 10), NO_HART);
    refused("hart(3, ?)", BUSY, UNKNOWN, (x, w) -> x.hart(3, w), -1, 0, 9, 10, MIN, MAX);
    refused("hart(0, ?)", BUSY, OUTSIDE, (x, w) -> x.hart(0, w), -1, 10, MIN, MIN + 3, MIN + 4, MAX);
    refused("hart(2, ?)", BUSY, OUTSIDE, (x, w) -> x.hart(2, w), -1, 10, MIN, MAX);
    refused("hart(?, 0) without harts", EMPTY, UNKNOWN, (x, h) -> x.hart(h, 0), -1, 0, 1, MIN, MAX);
    for (int n = 0; n <= 4; n++) {
      HaltRing x = Check.with("R" + "hp2".repeat(n));
      for (int h = 0; h <= 4; h++) due("hart(" + h + ", 9) of " + n, x.hart(h, 9), h < n ? 15 : UNKNOWN);
    }
    HaltRing x = halted("Ria01hp2", 999, 0, 1, 998);
    dueHart("0 to 9", x, 0, 15, 2, 1, 0, 999, 0, 1, 998, 2, 15);
  }

  private static void trigger() {
    sentence("trigger(): UNKNOWN if there is no such trigger; OUTSIDE if what is out of range");
    refused("trigger(?, 0)", BUSY, UNKNOWN, (x, t) -> x.trigger(t, 0), NO_TRIGGER);
    refused("trigger(?, 7)", BUSY, UNKNOWN, (x, t) -> x.trigger(t, 7), NO_TRIGGER);
    refused("trigger(0, ?)", BUSY, OUTSIDE, (x, w) -> x.trigger(0, w), -1, 7, MIN, MAX);
    refused("trigger(4, ?)", BUSY, OUTSIDE, (x, w) -> x.trigger(4, w), -1, 7, MIN, MAX);
    refused("trigger(?, 0) without triggers", EMPTY, UNKNOWN, (x, t) -> x.trigger(t, 0), -1, 0, 1, MIN, MAX);
    for (int n = 0; n <= 6; n++) {
      HaltRing x = Check.with("Rha0" + "T0q39999".repeat(n));
      for (int t = 0; t <= 6; t++) due("trigger(" + t + ", 3) of " + n, x.trigger(t, 3), t < n ? 999 : UNKNOWN);
    }
    dueTrigger("0 to 6", busy(), 4, 0, 1, 1, 500, 1, 1, 1);
    dueTrigger("the value (0 for kind 0)", busy(), 0, 0, 0, 1, 0, 3, 2, 0);
  }

  private static void cell() {
    sentence("cell(): 0 to 7; OUTSIDE if cell is out of range");
    refused("cell", BUSY, OUTSIDE, HaltRing::cell, -1, 8, MIN, MAX);
    refused("cell", EMPTY, OUTSIDE, HaltRing::cell, -1, 8, MIN, MAX);
    due("cell(0)", busy().cell(0), 7);
    due("cell(7)", busy().cell(7), 70);
  }

  private static void order() {
    sentence("order(): UNKNOWN if there is no such order; OUTSIDE if what is out of range");
    refused("order(?, 0)", BUSY, UNKNOWN, (x, o) -> x.order(o, 0), -1, 6, 7, MIN, MAX);
    refused("order(?, 4)", BUSY, UNKNOWN, (x, o) -> x.order(o, 4), -1, 6, 7, MIN, MAX);
    refused("order(?, 0)", FULL_ONE, UNKNOWN, (x, o) -> x.order(o, 0), -1, 8, 9, 11, 12, MIN, MAX);
    refused("order(0, ?)", BUSY, OUTSIDE, (x, w) -> x.order(0, w), -1, 4, MIN, MAX);
    refused("order(5, ?)", BUSY, OUTSIDE, (x, w) -> x.order(5, w), -1, 4, MIN, MAX);
    refused("order(?, 0) without orders", EMPTY, UNKNOWN, (x, o) -> x.order(o, 0), -1, 0, 1, MIN, MAX);
    dueOrder("the last of 6", busy(), 5, 1, 0, 0, 0);
    dueOrder("the last of 8", full(), 7, 0, 1, 0, 0);
  }

  private static void tick() {
    sentence("tick(): 1 to 99; OUTSIDE if n is out of range");
    refused("tick", BUSY, OUTSIDE, HaltRing::tick, -1, 0, 100, MIN, MAX);
    refused("tick", EMPTY, OUTSIDE, HaltRing::tick, -1, 0, 100, MIN, MAX);
    HaltRing x = Check.with("Ria01ha0");
    due("tick(1)", x.tick(1), 0);
    due("register 0", x.hart(0, 4), 1);
    due("tick(99)", x.tick(99), 0);
    due("register 0", x.hart(0, 4), 100);
    sentence("Returns how many harts are halted then");
    for (int n = 0; n <= 4; n++) due("tick(1) with " + n, Check.with("Ribia01" + "ha0".repeat(n) + "hb0".repeat(4 - n)).tick(1), n);
  }

  private static void send() {
    sentence("send(): OUTSIDE if order is out of range; UNKNOWN if there is no such hart; OUTSIDE if r or v is out of range; FULL");
    int[] noOrder = {-1, 6, MIN, MAX};
    refused("send(?, 0, 0, 0)", BUSY, OUTSIDE, (x, o) -> x.send(o, 0, 0, 0), noOrder);
    refused("send(?, 3, 0, 0): before UNKNOWN", BUSY, OUTSIDE, (x, o) -> x.send(o, 3, 0, 0), noOrder);
    refused("send(?, 0, 0, 0): before FULL", FULL_ONE, OUTSIDE, (x, o) -> x.send(o, 0, 0, 0), noOrder);
    refused("send(?, 0, 0, 0) without harts", EMPTY, OUTSIDE, (x, o) -> x.send(o, 0, 0, 0), noOrder);
    for (int order = 0; order <= 5; order++) {
      int o = order;
      refused("send(" + o + ", ?, 0, 0)", BUSY, UNKNOWN, (x, h) -> x.send(o, h, 0, 0), NO_HART);
      refused("send(" + o + ", 3, ?, 0): before OUTSIDE", BUSY, UNKNOWN, (x, r) -> x.send(o, 3, r, 0), -1, 4);
      refused("send(" + o + ", 3, 0, ?): before OUTSIDE", BUSY, UNKNOWN, (x, v) -> x.send(o, 3, 0, v), -1, 1000);
      refused("send(" + o + ", ?, 0, 0): before FULL", FULL_ONE, UNKNOWN, (x, h) -> x.send(o, h, 0, 0), -1, 3);
      int r = order == 3 || order == 4 ? 3 : 0;
      int v = order == 4 ? 999 : 0;
      refused("send(" + o + ", 0, ?, 0)", BUSY, OUTSIDE, (x, a) -> x.send(o, 0, a, 0), -1, r + 1, MIN, MAX);
      refused("send(" + o + ", 0, 0, ?)", BUSY, OUTSIDE, (x, a) -> x.send(o, 0, 0, a), -1, v + 1, MIN, MAX);
      refused("send(" + o + ", 0, ?, 0): before FULL", FULL_ONE, OUTSIDE, (x, a) -> x.send(o, 0, a, 0), -1, r + 1);
      refused("send(" + o + ", 0, 0, ?): before FULL", FULL_ONE, OUTSIDE, (x, a) -> x.send(o, 0, 0, a), -1, v + 1);
      refused("send(" + o + ", ?, 0, 0): FULL", FULL_ONE, FULL, (x, h) -> x.send(o, h, 0, 0), 0, 2);
      refused("send(" + o + ", ?, 0, 0) without harts", EMPTY, UNKNOWN, (x, h) -> x.send(o, h, 0, 0), -1, 0, MIN, MAX);
    }
  }

  private static void sendValues() {
    sentence("send(): the register, 0 to 3, and the value, 0 to 999, are taken as they are");
    for (int r : new int[] {0, 3}) {
      for (int v : new int[] {0, 999}) {
        HaltRing x = halted("Ria00ha0", 500, 500, 500, 500);
        due("send(4, 0, " + r + ", " + v + ")", x.send(4, 0, r, v), 0);
        x.tick(2);
        due("register " + r, x.hart(0, 4 + r), v);
        due("send(3, 0, " + r + ", 0)", x.send(3, 0, r, 0), 0);
        x.tick(2);
        due("data", x.count(7), v);
      }
    }
    HaltRing x = Check.with("Ria00ha0ha0ha0ha0");
    for (int o = 0; o <= 5; o++) {
      due("send(" + o + ", 3, 0, 0)", x.send(o, 3, 0, 0), o > 3 ? 1 : 0);
      due("on their way", x.count(5), Math.min(o + 1, 4));
      due("each is an act", x.count(10), o + 1);
    }
  }

  private static void set() {
    sentence("set(): UNKNOWN if there is no such trigger; OUTSIDE if another argument is out of range");
    refused("set(?, 0, 0, 0, 1, false)", BUSY, UNKNOWN, (x, t) -> x.set(t, 0, 0, 0, 1, false), NO_TRIGGER);
    refused("set(?, 2, 16, 1000, 10, true): before OUTSIDE", BUSY, UNKNOWN, (x, t) -> x.set(t, 2, 16, 1000, 10, true), NO_TRIGGER);
    refused("set(?, ..) without triggers", EMPTY, UNKNOWN, (x, t) -> x.set(t, 0, 0, 0, 1, false), -1, 0, MIN, MAX);
    refused("kind", BUSY, OUTSIDE, (x, kind) -> x.set(4, kind, 0, 0, 1, false), -1, 2, MIN, MAX);
    refused("x of kind 0", BUSY, OUTSIDE, (x, place) -> x.set(4, 0, place, 0, 1, false), -1, 16, MIN, MAX);
    refused("x of kind 1", BUSY, OUTSIDE, (x, r) -> x.set(4, 1, r, 0, 1, false), -1, 4, 15, MIN, MAX);
    refused("v of kind 0", BUSY, OUTSIDE, (x, v) -> x.set(4, 0, 0, v, 1, false), -1, 1, 999, MIN, MAX);
    refused("v of kind 1", BUSY, OUTSIDE, (x, v) -> x.set(4, 1, 0, v, 1, false), -1, 1000, MIN, MAX);
    refused("count of kind 0", BUSY, OUTSIDE, (x, count) -> x.set(4, 0, 0, 0, count, true), -1, 0, 10, MIN, MAX);
    refused("count of kind 1", BUSY, OUTSIDE, (x, count) -> x.set(4, 1, 0, 0, count, true), -1, 0, 10, MIN, MAX);
  }

  private static void setInside() {
    sentence("set(): Changes a trigger; its hart stays. Its number left becomes the count. Returns the previous kind");
    int[][] rows = {{0, 0, 0, 1}, {0, 15, 0, 9}, {1, 0, 0, 1}, {1, 3, 999, 9}, {1, 0, 999, 9}, {1, 3, 0, 1}};
    for (int[] from : rows) {
      for (int[] to : rows) {
        HaltRing x = Check.with("Rha0ha0ha0ha0t3pa5t2pa5");
        x.set(0, from[0], from[1], from[2], from[3], false);
        due("set", x.set(0, to[0], to[1], to[2], to[3], true), from[0]);
        dueTrigger("set", x, 0, 3, to[0], to[1], to[2], to[3], to[3], 1);
        dueTrigger("the other stays", x, 1, 2, 0, 0, 0, 5, 5, 0);
        due("acts", x.count(10), 2);
      }
    }
    HaltRing left = Check.with("Ria01ha0t0pa9");
    left.tick(8);
    due("left", left.trigger(0, 5), 1);
    left.set(0, 0, 0, 0, 9, false);
    due("left is the count, also if that is the same", left.trigger(0, 5), 9);
    HaltRing last = Check.with("Rha0" + "t0pa1".repeat(6));
    due("the last of six", last.set(5, 1, 3, 999, 9, true), 0);
    dueTrigger("the last of six", last, 5, 0, 1, 3, 999, 9, 9, 1);
    refused("the seventh", () -> Check.with("Rha0" + "t0pa1".repeat(6)), UNKNOWN, (x, t) -> x.set(t, 0, 0, 0, 1, false), 6);
  }

  private static void buffer() {
    sentence("buffer(): at: 0 or 1; OUTSIDE if an argument is not like this");
    refused("buffer(?, 0)", BUSY, OUTSIDE, (x, at) -> x.buffer(at, 0), -1, 2, MIN, MAX);
    refused("buffer(?, 900)", BUSY, OUTSIDE, (x, at) -> x.buffer(at, 900), -1, 0, 1, 2, MIN, MAX);
    refused("buffer(0, ?)", BUSY, OUTSIDE, (x, how) -> x.buffer(0, how), -1, 1, 10, 99, 899, 900, 999, 1000, 1101, -101, MIN, MAX);
    sentence("three digits: the instruction; r (0 to 3); and v (0 to 9), s (0 to 3), m (0 to 7) or k (0 to 9 only); "
        + "digits that the instruction does not have are 0");
    String[] form = {"000", "1[0-3][0-9]", "2[0-3]0", "3[0-3][0-3]", "4[0-3][0-7]", "5[0-3][0-7]", "6[0-3][0-9]", "700", "800"};
    for (int how = -150; how <= 1150; how++) {
      boolean good = how >= 0 && how < 900 && String.format("%03d", how).matches(form[how / 100]);
      for (int at = 0; at <= 1; at++) {
        HaltRing x = new HaltRing();
        x.buffer(at, 333); x.buffer(1 - at, 507);
        String call = "buffer(" + at + ", " + how + ")";
        due(call, x.buffer(at, how), good ? 333 : OUTSIDE);
        due(call + ": count(8 + at)", x.count(8 + at), good ? how : 333);
        due(call + ": the other one", x.count(9 - at), 507);
        due(call + ": acts", x.count(10), good ? 3 : 2);
      }
    }
  }

  private static void poke() {
    sentence("poke(): OUTSIDE if an argument is out of range");
    refused("poke(?, 0)", BUSY, OUTSIDE, (x, c) -> x.poke(c, 0), -1, 8, MIN, MAX);
    refused("poke(0, ?)", BUSY, OUTSIDE, (x, v) -> x.poke(0, v), -1, 1000, MIN, MAX);
    refused("poke(7, ?)", BUSY, OUTSIDE, (x, v) -> x.poke(7, v), -1, 1000, MIN, MAX);
    refused("poke(8, ?)", BUSY, OUTSIDE, (x, v) -> x.poke(8, v), -1, 1000, MIN, MAX);
    HaltRing x = new HaltRing();
    for (int c : new int[] {0, 7}) {
      due("poke(" + c + ", 999)", x.poke(c, 999), 0);
      due("cell", x.cell(c), 999);
      due("poke(" + c + ", 0)", x.poke(c, 0), 999);
      due("cell", x.cell(c), 0);
    }
    due("acts", x.count(10), 4);
  }

  private static void forecasts() {
    sentence("ahead(): UNKNOWN if there is no such hart; OUTSIDE if n or what is out of range");
    refused("ahead(0, ?, 0)", BUSY, UNKNOWN, (x, h) -> x.ahead(0, h, 0), NO_HART);
    refused("ahead(100, ?, 10): before OUTSIDE", BUSY, UNKNOWN, (x, h) -> x.ahead(100, h, 10), NO_HART);
    refused("ahead(?, 0, 0)", BUSY, OUTSIDE, (x, n) -> x.ahead(n, 0, 0), -1, 100, MIN, MAX);
    refused("ahead(0, 2, ?)", BUSY, OUTSIDE, (x, w) -> x.ahead(0, 2, w), -1, 10, MIN, MAX);
    refused("ahead(99, 2, ?)", BUSY, OUTSIDE, (x, w) -> x.ahead(99, 2, w), -1, 10, MIN, MAX);
    refused("ahead(0, ?, 0) without harts", EMPTY, UNKNOWN, (x, h) -> x.ahead(0, h, 0), -1, 0, MIN, MAX);
    sentence("halts(): UNKNOWN if there is no such hart");
    refused("halts", BUSY, UNKNOWN, HaltRing::halts, NO_HART);
    refused("halts without harts", EMPTY, UNKNOWN, HaltRing::halts, -1, 0, MIN, MAX);
    sentence("soonest(): UNKNOWN if there is no such trigger");
    refused("soonest", BUSY, UNKNOWN, HaltRing::soonest, NO_TRIGGER);
    refused("soonest without triggers", () -> Check.with("Ria01ha0"), UNKNOWN, HaltRing::soonest, -1, 0, MIN, MAX);
    sentence("judge(): OUTSIDE if n is out of range, or row is negative or has more digits");
    refused("judge(?, 0)", BUSY, OUTSIDE, (x, n) -> x.judge(n, 0), -1, 0, 4, MIN, MAX);
    refused("judge(?, -1)", BUSY, OUTSIDE, (x, n) -> x.judge(n, -1), 0, 1, 2, 3, 4);
    refused("judge(?, the smallest)", BUSY, OUTSIDE, (x, n) -> x.judge(n, Long.MIN_VALUE), 0, 1, 2, 3, 4);
    refused("judge(?, the largest)", BUSY, OUTSIDE, (x, n) -> x.judge(n, Long.MAX_VALUE), 0, 1, 2, 3, 4);
    for (int n = 1; n <= 3; n++) {
      int many = n;
      long scale = n == 1 ? 1000000L : n == 2 ? 1000000000000L : 1000000000000000000L;
      unchanged("judge(" + n + ", " + scale + ")", BUSY, OUTSIDE, x -> x.judge(many, scale));
      unchanged("judge(" + n + ", " + (scale - 1) + ")", BUSY, 0, x -> x.judge(many, scale - 1));
      unchanged("judge(" + n + ", 0)", BUSY, 0, x -> x.judge(many, 0));
    }
  }

  private static void all() {
    sentence("all(): a set of harts, 0 to all harts; OUTSIDE if set is out of range");
    for (int harts = 0; harts <= 4; harts++) {
      String board = "Ria01" + "ha0".repeat(harts);
      int every = (1 << harts) - 1;
      refused("all(?) of " + harts, () -> Check.with(board), OUTSIDE, HaltRing::all, -1, every + 1, MIN, MAX);
      due("all(" + every + ") of " + harts, Check.with(board).all(every), harts);
      due("all(0) of " + harts, Check.with(board).all(0), harts == 0 ? 0 : NONE);
    }
    refused("all(?)", FULL_ONE, OUTSIDE, HaltRing::all, -1, 8, 15, 16, MIN, MAX);
  }

  private static void see() {
    sentence("see(): OUTSIDE if an argument is out of range; FULL if there are 6 sights");
    int[] most = {15, 2, 999};
    for (Setup setup : new Setup[] {BUSY, FULL_ONE}) {
      refused("see(?, 0, 0)", setup, OUTSIDE, (x, n) -> x.see(n, 0, 0), -1, 10, MIN, MAX);
      refused("see(0, ?, 0)", setup, OUTSIDE, (x, w) -> x.see(0, w, 0), -1, 3, MIN, MAX);
      for (int w = 0; w <= 2; w++) {
        int what = w;
        refused("see(0, " + what + ", ?)", setup, OUTSIDE, (x, v) -> x.see(0, what, v), -1, most[what] + 1, MIN, MAX);
      }
    }
    for (int w = 0; w <= 2; w++) {
      int what = w;
      refused("see(9, " + what + ", ?)", FULL_ONE, FULL, (x, v) -> x.see(9, what, v), 0, most[what]);
      for (int n : new int[] {0, 9}) {
        for (int v : new int[] {0, most[what]}) due("see(" + n + ", " + what + ", " + v + ")", new HaltRing().see(n, what, v), 1);
      }
    }
    HaltRing x = new HaltRing();
    for (int n = 1; n <= 6; n++) due("sight " + n, x.see(0, 0, 0), n);
    due("sight 7", x.see(0, 0, 0), FULL);
    due("count(11)", x.count(11), 6);
    due("unsee()", x.unsee(), 6);
    due("room again", x.see(0, 0, 0), 1);
  }

  private static void shareAndLost() {
    sentence("share(): UNKNOWN if there is no such trigger");
    for (boolean upper : new boolean[] {true, false}) {
      refused("share(?, " + upper + ")", BUSY, UNKNOWN, (x, t) -> x.share(t, upper), NO_TRIGGER);
      refused("share(?, " + upper + ") without triggers", EMPTY, UNKNOWN, (x, t) -> x.share(t, upper), -1, 0, MIN, MAX);
    }
    sentence("lost(): 0 to 10; OUTSIDE if x is out of range");
    for (boolean upper : new boolean[] {true, false}) {
      refused("lost(?, " + upper + ")", BUSY, OUTSIDE, (x, p) -> x.lost(p, upper), -1, 11, MIN, MAX);
      refused("lost(?, " + upper + ") without harts", EMPTY, OUTSIDE, (x, p) -> x.lost(p, upper), -1, 11, MIN, MAX);
    }
  }

  private static void drawn() {
    sentence("drawn(): 1 to 20; OUTSIDE if m is out of range");
    refused("drawn", BUSY, OUTSIDE, HaltRing::drawn, -1, 0, 21, MIN, MAX);
    refused("drawn without harts", EMPTY, OUTSIDE, HaltRing::drawn, -1, 0, 21, MIN, MAX);
  }

  private static void slots() {
    sentence("keep(): 0 or 1; UNKNOWN if slot is out of range");
    refused("keep", BUSY, UNKNOWN, HaltRing::keep, -1, 2, MIN, MAX);
    refused("keep without harts", EMPTY, UNKNOWN, HaltRing::keep, -1, 2, MIN, MAX);
    sentence("again(): UNKNOWN if slot is out of range; STATE if nothing was kept in it");
    refused("again", BUSY, UNKNOWN, HaltRing::again, -1, 2, MIN, MAX);
    refused("again where nothing was kept: before STATE", EMPTY, UNKNOWN, HaltRing::again, -1, 2, MIN, MAX);
    refused("again where nothing was kept", EMPTY, STATE, HaltRing::again, 0, 1);
    for (int slot = 0; slot <= 1; slot++) {
      int other = slot;
      Setup one = () -> {
        HaltRing x = Check.with("Ria01ha0ha0");
        x.tick(1); x.keep(1 - other); x.tick(1);
        return x;
      };
      refused("again of the other slot", one, STATE, HaltRing::again, slot);
      due("again of the slot", one.make().again(1 - slot), 2);
    }
  }

  private static void count() {
    sentence("count(): OUTSIDE if what is out of range");
    refused("count", BUSY, OUTSIDE, HaltRing::count, -1, 12, MIN, MAX);
    refused("count", EMPTY, OUTSIDE, HaltRing::count, -1, 12, MIN, MAX);
    due("count(0)", busy().count(0), 21);
    due("count(11)", busy().count(11), 5);
  }
}
