/** The boundaries of what is remembered: acts and undo(), slots, sights, and the 512 calls of an object. */
public final class ActBoundsTest extends Bounds {
  private static final String BOARD = "Ria01iw07ha0hb0t0pb9";
  private static final int ACTS = 8;

  public static void main(String[] args) {
    begin("bounds of the acts");
    whatIsAnAct();
    whatIsNone();
    latest14();
    olderAreForgotten();
    undoAfterUndo();
    undoOfEach();
    nothingToUndo();
    slots();
    againForgetsActs();
    calls512();
    end();
  }

  /** Performs an act; each number is another one, and each changes something but for clear() and the dropped send(). */
  private static long act(HaltRing x, int number) {
    switch (number % ACTS) {
      case 0: return x.tick(1);
      case 1: return x.send(1, 1, 0, 0);
      case 2: return x.set(0, 0, 1, 0, 1 + number % 9, false);
      case 3: return x.buffer(1, 100 + number % 10);
      case 4: return x.clear();
      case 5: return x.poke(3, 100 + number);
      case 6: return x.send(3, 0, 1, 0);
      default: return x.send(5, 0, 0, 0);
    }
  }

  private static void whatIsAnAct() {
    sentence("The acts are the successful calls of tick(), send() (also if the order is dropped), set(), buffer(), clear() and poke()");
    HaltRing x = Check.with(BOARD);
    for (int n = 0; n < ACTS; n++) {
      act(x, n);
      due("acts after act " + n, x.count(10), n + 1);
    }
    due("the last one was dropped", x.count(6), 1);
    due("on their way", x.count(5), 2);
    sentence("successful: also if the call changes nothing");
    HaltRing y = Check.with(BOARD);
    due("clear() of no error", y.clear(), 0);
    due("poke() of the same number", y.poke(0, 0), 0);
    due("buffer() of the same", y.buffer(0, 0), 0);
    due("set() of the same", y.set(0, 0, 1, 0, 9, false), 0);
    due("acts", y.count(10), 4);
    for (int n = 3; n >= 0; n--) due("undo()", y.undo(), n);
    due("undo()", y.undo(), STATE);
  }

  private static void whatIsNone() {
    sentence("The acts: no other call is one");
    HaltRing x = Check.with(BOARD);
    x.tick(1); x.poke(0, 1);
    x.write('x'); x.wipe(); x.fault(); x.hart(0, 0); x.trigger(0, 0); x.cell(0); x.order(0, 0); x.ahead(9, 0, 0); x.halts(0);
    x.soonest(0); x.all(3); x.crew(); x.judge(1, 101000); x.see(0, 0, 0); x.which(); x.unsee(); x.share(0, true); x.lost(5, true);
    x.seed(5); x.drawn(5); x.keep(0); x.keep(1); x.count(10); x.board();
    due("acts", x.count(10), 2);
    sentence("the successful calls: a refused one is none");
    x.tick(0); x.tick(100); x.send(6, 0, 0, 0); x.send(0, 2, 0, 0); x.send(0, 0, 1, 0); x.set(1, 0, 0, 0, 1, false);
    x.set(0, 0, 16, 0, 1, false); x.buffer(2, 0); x.buffer(0, 900); x.poke(8, 0); x.poke(0, 1000);
    due("acts", x.count(10), 2);
    due("undo()", x.undo(), 1);
    due("cell(0)", x.cell(0), 0);
    for (int i = 0; i < 8; i++) x.send(0, 0, 0, 0);
    due("acts", x.count(10), 9);
    due("send() to a full queue", x.send(0, 0, 0, 0), FULL);
    due("acts", x.count(10), 9);
  }

  private static void latest14() {
    sentence("The latest 14 acts can be undone");
    for (int acts = 1; acts <= 30; acts++) {
      HaltRing x = Check.with(BOARD);
      for (int n = 1; n <= acts; n++) x.poke(3, n);
      int can = Math.min(acts, 14);
      due("after " + acts, x.count(10), can);
      for (int left = can - 1; left >= 0; left--) {
        due("after " + acts + ": undo()", x.undo(), left);
        due("acts that can be undone", x.count(10), left);
        due("cell(3)", x.cell(3), acts - can + left);
      }
      due("after " + acts + ": one undo() too many", x.undo(), STATE);
      due("cell(3)", x.cell(3), acts - can);
      due("acts", x.count(10), 0);
    }
    sentence("The latest 14 acts: each kind of act counts as one, whatever it is");
    for (int kind = 0; kind < ACTS; kind++) {
      HaltRing x = Check.with(BOARD);
      x.poke(5, 999);
      for (int n = 0; n < 13; n++) act(x, kind == 1 && n > 7 ? 5 : kind);
      due("14 acts of kind " + kind, x.count(10), 14);
      act(x, kind == 1 ? 5 : kind);
      due("15 acts", x.count(10), 14);
      for (int n = 13; n >= 0; n--) due("undo()", x.undo(), n);
      due("the first of 15 stays", x.cell(5), 999);
    }
    HaltRing ticks = Check.with(BOARD);
    for (int n = 0; n < 14; n++) ticks.tick(99);
    for (int n = 13; n >= 0; n--) due("tick(99) is one act", ticks.undo(), n);
    dueHart("as at the beginning", ticks, 0, 0, 0, 0, 0, 0);
  }

  private static void olderAreForgotten() {
    sentence("The latest 14 acts can be undone: older ones are forgotten, also after undos");
    HaltRing x = Check.with(BOARD);
    for (int n = 1; n <= 20; n++) x.poke(3, n);
    for (int n = 13; n >= 0; n--) due("undo()", x.undo(), n);
    due("undo()", x.undo(), STATE);
    due("cell(3)", x.cell(3), 6);
    x.poke(3, 500);
    due("acts", x.count(10), 1);
    due("undo()", x.undo(), 0);
    due("cell(3)", x.cell(3), 6);
    due("undo()", x.undo(), STATE);
    HaltRing one = Check.with(BOARD);
    for (int n = 1; n <= 15; n++) one.poke(3, n);
    due("undo()", one.undo(), 13);
    due("acts", one.count(10), 13);
    one.poke(3, 100);
    due("acts", one.count(10), 14);
    for (int n = 13; n >= 0; n--) due("undo()", one.undo(), n);
    due("cell(3)", one.cell(3), 1);
    due("undo()", one.undo(), STATE);
  }

  private static void undoAfterUndo() {
    sentence("Undoes the latest act that is not undone");
    HaltRing x = Check.with(BOARD);
    x.poke(3, 1); x.poke(3, 2); x.poke(3, 3);
    due("undo()", x.undo(), 2);
    due("undo()", x.undo(), 1);
    due("cell(3)", x.cell(3), 1);
    x.poke(3, 4);
    due("acts", x.count(10), 2);
    due("undo()", x.undo(), 1);
    due("cell(3)", x.cell(3), 1);
    due("undo()", x.undo(), 0);
    due("cell(3)", x.cell(3), 0);
    due("undo()", x.undo(), STATE);
  }

  private static void undoOfEach() {
    sentence("harts, cells, triggers, module and orders are as before it");
    Setup setups = () -> {
      HaltRing x = busy();
      x.undo();
      return x;
    };
    // undone, the acts before them can still be undone, and nothing tells that there was one more
    unchanged("tick(1), undo()", setups, x -> { x.tick(1); return x.undo(); });
    unchanged("tick(99), undo()", setups, x -> { x.tick(99); return x.undo(); });
    for (int order = 0; order <= 5; order++) {
      int o = order;
      unchanged("send(" + o + ", ..), undo()", setups, x -> { x.send(o, 2, 0, 0); return x.undo(); });
    }
    unchanged("set(), undo()", setups, x -> { x.set(4, 0, 15, 0, 9, false); return x.undo(); });
    unchanged("set() of another, undo()", setups, x -> { x.set(0, 1, 3, 999, 9, true); return x.undo(); });
    unchanged("buffer(0, ..), undo()", setups, x -> { x.buffer(0, 800); return x.undo(); });
    unchanged("buffer(1, ..), undo()", setups, x -> { x.buffer(1, 0); return x.undo(); });
    unchanged("clear(), undo()", setups, x -> { x.clear(); return x.undo(); });
    for (int cell = 0; cell <= 7; cell++) {
      int c = cell;
      unchanged("poke(" + c + ", 999), undo()", setups, x -> { x.poke(c, 999); return x.undo(); });
    }
    HaltRing error = Check.with(BOARD);
    error.send(3, 0, 0, 0); error.send(3, 0, 0, 0);
    due("clear()", error.clear(), 1);
    due("undo()", error.undo(), 2);
    due("the error is there again", error.count(6), 1);
    sentence("harts, cells, triggers, module and orders: the text, the sights, the seed and the slots stay");
    HaltRing x = Check.with(BOARD);
    x.poke(0, 1); x.keep(0); x.poke(0, 2);
    x.write('x'); x.see(0, 0, 0); x.seed(5);
    due("undo()", x.undo(), 1);
    due("undo()", x.undo(), 0);
    due("text", x.count(0), BOARD.length() + 1);
    due("sights", x.count(11), 1);
    due("seed", x.seed(6), 5);
    due("slot", x.again(0), 2);
    due("cell(0)", x.cell(0), 1);
  }

  private static void nothingToUndo() {
    sentence("undo(): STATE if there is none");
    unchanged("undo() of a new object", HaltRing::new, STATE, HaltRing::undo);
    unchanged("undo() after board()", () -> Check.with(BOARD), STATE, HaltRing::undo);
    Setup all = () -> {
      HaltRing x = busy();
      for (int n = 0; n < 14; n++) x.undo();
      return x;
    };
    unchanged("the fifteenth undo()", all, STATE, HaltRing::undo);
  }

  private static void slots() {
    sentence("keep(): Keeps harts, cells, triggers, module and orders in a slot. Returns the number of harts");
    for (int harts = 0; harts <= 4; harts++) {
      HaltRing x = Check.with("Ria01" + "ha0".repeat(harts));
      for (int slot = 0; slot <= 1; slot++) {
        due("keep(" + slot + ")", x.keep(slot), harts);
        due("again(" + slot + ")", x.again(slot), harts);
      }
    }
    for (int s = 0; s <= 1; s++) {
      int slot = s;
      Setup forgot = () -> {
        HaltRing x = busy();
        x.keep(slot); x.again(slot);
        return x;
      };
      // whatever happens between them, the state is what was kept, again and again
      Call away = x -> {
        x.tick(7); x.poke(1, 999); x.set(0, 1, 1, 1, 1, true); x.buffer(0, 800); x.clear(); x.send(5, 0, 0, 0);
        return x.again(slot);
      };
      unchanged("again(" + slot + ")", forgot, 3, away);
      unchanged("again(" + slot + ") twice", forgot, 3, x -> { away.on(x); return away.on(x); });
    }
    sentence("a slot: one does not change the other, and the later keep() counts");
    HaltRing x = new HaltRing();
    x.poke(0, 1); x.keep(0); x.poke(0, 2); x.keep(1); x.poke(0, 3);
    due("again(0)", x.again(0), 0);
    due("cell(0)", x.cell(0), 1);
    due("again(1)", x.again(1), 0);
    due("cell(0)", x.cell(0), 2);
    x.keep(0);
    x.again(0);
    due("cell(0)", x.cell(0), 2);
    sentence("board(): the slots are empty");
    x.write('R');
    due("board()", x.board(), 0);
    due("again(0)", x.again(0), STATE);
    due("again(1)", x.again(1), STATE);
    x.keep(1);
    due("again(0)", x.again(0), STATE);
    due("again(1)", x.again(1), 0);
  }

  private static void againForgetsActs() {
    sentence("again(): There are no acts to be undone then");
    HaltRing x = new HaltRing();
    for (int n = 1; n <= 20; n++) x.poke(0, n);
    x.keep(0);
    due("keep() forgets none", x.count(10), 14);
    due("again(0)", x.again(0), 0);
    due("acts", x.count(10), 0);
    due("undo()", x.undo(), STATE);
    due("cell(0)", x.cell(0), 20);
    for (int n = 1; n <= 14; n++) {
      x.poke(0, 100 + n);
      due("acts", x.count(10), n);
    }
    for (int n = 13; n >= 0; n--) due("undo()", x.undo(), n);
    due("cell(0)", x.cell(0), 20);
    due("undo()", x.undo(), STATE);
  }

  private static void calls512() {
    sentence("An object is used for at most 512 calls after it has been made");
    HaltRing x = new HaltRing();
    for (int n = 1; n <= 496; n++) due("poke " + n, x.poke(0, n), n - 1);
    for (int n = 13; n >= 0; n--) due("undo()", x.undo(), n);
    due("call 511", x.cell(0), 482);
    due("call 512", x.undo(), STATE);
    HaltRing y = new HaltRing();
    Check.write(y, "Ria01ha0");
    y.board();
    for (int n = 1; n <= 502; n++) due("tick " + n, y.tick(n % 2 == 0 ? 99 : 1), 0);
    due("call 512", y.hart(0, 4), 251 * 100 % 1000);
  }
}
