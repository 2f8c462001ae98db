/** The boundaries of the parts 3 and 4 of A TICK: halt groups and waking. */
public final class GroupBoundsTest extends Bounds {
  public static void main(String[] args) {
    begin("bounds of the groups");
    groups();
    alreadyHalted();
    haltedBefore();
    waking();
    wakingIsLast();
    end();
  }

  private static void groups() {
    sentence("if a hart of group 1 or 2 was not halted before this tick and is halted now, each hart of that group is halted");
    for (int group = 0; group <= 2; group++) {
      for (int other = 0; other <= 2; other++) {
        HaltRing x = Check.with("Ribia01ha" + group + "hb" + other + "hb" + group);
        boolean same = group != 0;
        int set = 1 | (same && other == group ? 2 : 0) | (same ? 4 : 0);
        due("groups " + group + " and " + other, x.tick(1), Integer.bitCount(set));
        due("halted", x.count(4), set);
        due("cause of hart 0", x.hart(0, 2), 3);
        due("cause of hart 1", x.hart(1, 2), (set & 2) != 0 ? 4 : 0);
        due("cause of hart 2", x.hart(2, 2), (set & 4) != 0 ? 4 : 0);
      }
    }
    HaltRing last = Check.with("Ribia01hb2hb1hb2ha2");
    due("the last halts the first, which has done its instruction", last.tick(1), 3);
    dueHart("hart 0", last, 0, 2, 2, 4, 0, 1);
    due("halted", last.count(4), 13);
    HaltRing both = Check.with("Ribia01ha1hb1ha2hb2");
    due("both groups in one tick", both.tick(1), 4);
    HaltRing order = Check.with("Ria01ha1hb1");
    order.send(0, 0, 0, 0);
    due("halted by an order", order.tick(1), 2);
    dueHart("the other one has done its instruction", order, 1, 1, 2, 4, 0, 1);
    HaltRing trigger = Check.with("Ria01ha2hb2t1pa1");
    due("halted by a trigger", trigger.tick(1), 2);
    sentence("each hart of that group that is not halted is halted with cause 4: a sleeping one keeps its mark");
    HaltRing sleeps = Check.with("Rizia01ibha1hb1");
    due("one sleeps, one runs", sleeps.tick(1), 0);
    due("one breaks", sleeps.tick(1), 2);
    dueHart("the sleeping one", sleeps, 0, 1, 2, 4, 1);
    dueHart("the one that broke", sleeps, 1, 3, 2, 3, 0, 1);
    HaltRing falls = Check.with("Rizibha1hb1");
    falls.tick(1);
    dueHart("one that fell asleep in this tick", falls, 0, 1, 2, 4, 1);
  }

  private static void alreadyHalted() {
    sentence("each hart of that group that is not halted: a halted one stays as it is");
    HaltRing x = Check.with("Ribia01ij0bha1ha1hb1");
    x.tick(1);
    due("cause of hart 0", x.hart(0, 2), 3);
    due("cause of hart 1", x.hart(1, 2), 3);
    due("cause of hart 2", x.hart(2, 2), 4);
    x.send(1, 2, 0, 0); x.tick(3);
    due("hart 2 runs", x.count(4), 3);
    x.send(0, 2, 0, 0); x.tick(3);
    due("all are halted", x.count(4), 7);
    due("cause of hart 0", x.hart(0, 2), 3);
    due("cause of hart 1", x.hart(1, 2), 3);
    due("cause of hart 2", x.hart(2, 2), 1);
  }

  private static void haltedBefore() {
    sentence("was not halted before this tick and is halted now: not for one that was halted before");
    HaltRing x = Check.with("Ribia01ia01ia01ha1hb1");
    x.tick(1); x.send(1, 1, 0, 0);
    x.tick(1);
    due("resumed", x.tick(1), 1);
    due("a halted hart does not halt its group again", x.tick(1), 1);
    sentence("was not halted before this tick: not for one that is resumed and halted again in it");
    HaltRing again = Check.with("Ria01ha1ha1");
    again.send(0, 0, 0, 0); again.tick(1);
    again.send(1, 1, 0, 0); again.tick(1); again.send(1, 0, 0, 0); again.send(0, 0, 0, 0);
    due("hart 1 runs, hart 0 was resumed and halted by orders", again.tick(1), 1);
    dueHart("hart 0", again, 0, 0, 2, 1);
    due("hart 1", again.hart(1, 1), 0);
    HaltRing reset = Check.with("Ribia01ij0bha1hb1");
    reset.tick(1); reset.send(1, 1, 0, 0); reset.tick(1); reset.send(2, 0, 0, 0);
    due("hart 0 was reset and broke again", reset.tick(1), 1);
    dueHart("hart 0", reset, 0, 1, 2, 3);
    sentence("and is halted now: not for one that is halted and resumed in this tick");
    HaltRing back = Check.with("Ria01ha1ha1");
    back.send(0, 0, 0, 0); back.send(1, 0, 0, 0);
    due("nobody", back.tick(1), 0);
    back.send(0, 0, 0, 0); back.send(2, 0, 0, 0);
    due("nobody", back.tick(1), 0);
    sentence("before this tick: each of the ticks of one call counts by itself");
    HaltRing many = Check.with("Ria01ha1ha1t0q00021");
    due("tick(2)", many.ahead(2, 1, 1), 0);
    due("tick(3)", many.tick(3), 2);
    due("cause of hart 1", many.hart(1, 2), 4);
  }

  private static void waking() {
    sentence("if cell 7 was written in this tick by an instruction w: not another cell");
    for (int cell = 0; cell <= 7; cell++) {
      HaltRing x = Check.with("Ria01iw0" + cell + "izha0hc0");
      x.tick(1);
      due("hart 1 sleeps", x.hart(1, 1), 1);
      x.tick(1);
      dueHart("after w of cell " + cell, x, 1, 3, cell == 7 ? 0 : 1, 0, cell == 7 ? 0 : 1);
      HaltRing y = halted("Riziw0" + cell + "hb0ha0");
      // hart 1 fell asleep in the tick of the halt
      due("hart 1 sleeps", y.hart(1, 1), 1);
      y.buffer(0, 500 + cell); y.send(5, 0, 0, 0); y.tick(1);
      dueHart("after w of cell " + cell + " of the buffer", y, 1, 1, cell == 7 ? 0 : 1, 0, cell == 7 ? 0 : 1);
      HaltRing z = halted("Riziw0" + cell + "hb0ha0");
      z.buffer(0, 100); z.buffer(1, 500 + cell); z.send(5, 0, 0, 0); z.tick(1);
      due("after w of cell " + cell + " as the second of the buffer", z.hart(1, 1), cell == 7 ? 0 : 1);
    }
    sentence("whatever the value");
    for (int v : new int[] {0, 1, 999}) {
      HaltRing x = halted("Riw07izha0hb0", v);
      x.poke(7, v);
      due("hart 1 sleeps", x.hart(1, 1), 1);
      step(x);
      due("woken by " + v + " where the cell was " + v, x.hart(1, 1), 0);
    }
    sentence("written by an instruction w: not by poke() and not by l");
    HaltRing poked = Check.with("Rizil07ha0hb0");
    poked.tick(1); poked.poke(7, 5); poked.tick(1); poked.tick(1);
    dueHart("still asleep", poked, 0, 1, 1, 0, 1);
    sentence("no instruction is executed: a w that a trigger prevents wakes nobody");
    HaltRing stopped = Check.with("Riw07izha0hb0t0pa1");
    stopped.tick(1);
    due("hart 1", stopped.hart(1, 1), 1);
    HaltRing failed = halted("Riziw07hb0ha0");
    failed.buffer(0, 600); failed.buffer(1, 507); failed.send(5, 0, 0, 0); failed.tick(2);
    due("nor one behind a j of the buffer", failed.hart(1, 1), 1);
    HaltRing runs = Check.with("Ria01izha0hb0");
    runs.buffer(0, 507); runs.tick(1); runs.send(5, 0, 0, 0); runs.tick(1);
    due("nor one of a buffer whose order failed with 4", runs.hart(1, 1), 1);
  }

  private static void wakingIsLast() {
    sentence("all sleep marks are removed: sleeping harts run from the next tick on");
    HaltRing x = Check.with("Rizia01ia01iw07ha0hd0ha0ha0");
    x.send(0, 3, 0, 0);
    x.tick(1);
    dueHart("one that fell asleep in this tick, before the writer", x, 0, 1, 0, 0, 0, 0);
    dueHart("and one behind it", x, 2, 1, 0, 0, 0, 0);
    x.tick(1);
    dueHart("they run now", x, 0, 2, 0, 0, 0, 1);
    HaltRing behind = Check.with("Ria00iw07izia01ha0hc0");
    behind.tick(1);
    dueHart("a later hart, asleep", behind, 1, 3, 1, 0, 1, 0);
    behind.tick(1);
    dueHart("it does not run in the tick that wakes it", behind, 1, 3, 0, 0, 0, 0);
    behind.tick(1);
    dueHart("but in the next", behind, 1, 4, 0, 0, 0, 1);
    sentence("all sleep marks are removed: those of halted harts too, which stay halted");
    HaltRing halted = Check.with("Rizia01ij0cha0ha0hb0");
    halted.tick(1); halted.send(0, 0, 0, 0); halted.tick(3);
    dueHart("halted in its sleep", halted, 0, 1, 2, 1, 1);
    halted.buffer(0, 507); halted.send(5, 0, 0, 0); halted.tick(1);
    dueHart("without the mark", halted, 0, 1, 2, 1, 0);
    halted.send(1, 0, 0, 0); halted.tick(1);
    dueHart("it runs when it is resumed", halted, 0, 2, 0, 0, 0, 1);
    sentence("3. Groups, 4. Waking: one that its group halts in its sleep loses the mark in the same tick");
    HaltRing both = Check.with("Riziw07ibha1hb0hc1");
    both.tick(1);
    dueHart("hart 0", both, 0, 1, 2, 4, 0);
    HaltRing order = Check.with("Rizia01iw07ha0hb0");
    order.tick(1); order.send(0, 0, 0, 0); order.tick(1);
    dueHart("so does one that an order halts in the tick of the w", order, 0, 1, 2, 1, 0);
    sentence("in this tick: a write wakes nobody who falls asleep later");
    HaltRing later = Check.with("Riw07ia00izha0hb0");
    later.tick(2);
    dueHart("hart 1", later, 1, 3, 1, 0, 1);
  }
}
