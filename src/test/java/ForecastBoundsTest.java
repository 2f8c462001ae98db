import java.math.BigInteger;

/** The boundaries of the answers of the forecasts, sights, shares, probabilities and random orders: promises 17 to 29. */
public final class ForecastBoundsTest extends Bounds {
  private static final String SIXTEEN = "R" + "ia01".repeat(16);
  private static final long FACTOR = 6364136223846793005L, STEP = 1442695040888963407L;

  public static void main(String[] args) {
    begin("bounds of the forecasts");
    nothingChanges();
    ahead();
    halts();
    soonest();
    soonestSupposes();
    all();
    crew();
    which();
    share();
    shareParts();
    lost();
    lostParts();
    seed();
    drawnSeed();
    drawnOrders();
    drawnRoom();
    end();
  }

  private static void nothingChanges() {
    sentence("forecasts (nothing changes)");
    for (Setup setup : new Setup[] {Bounds::busy, Bounds::full}) {
      for (int n : new int[] {0, 1, 99}) unchanged("ahead(" + n + ", 0, 0)", setup, x -> x.ahead(n, 0, 0));
      for (int h = 0; h <= 2; h++) { int hart = h; unchanged("halts(" + h + ")", setup, x -> x.halts(hart)); }
      for (int t = 0; t <= 4; t++) { int trigger = t; unchanged("soonest(" + t + ")", setup, x -> x.soonest(trigger)); }
      for (int set = 0; set <= 7; set++) { int s = set; unchanged("all(" + set + ")", setup, x -> x.all(s)); }
      unchanged("crew()", setup, HaltRing::crew);
      unchanged("judge(3, ..)", setup, x -> x.judge(3, 202000212000199000L));
      unchanged("which()", setup, HaltRing::which);
      for (int t = 0; t <= 4; t++) { int trigger = t; unchanged("share(" + t + ", true)", setup, x -> x.share(trigger, true)); }
      for (int p : new int[] {0, 5, 10}) unchanged("lost(" + p + ", false)", setup, x -> x.lost(p, false));
      unchanged("fault()", setup, HaltRing::fault);
      sentence("drawn(): Nothing but the seed changes in the end");
      unchanged("drawn(20), and the seed put back", setup, x -> { x.drawn(20); return x.seed(987654321987654321L); });
    }
  }

  private static void ahead() {
    sentence("ahead(): a property that a hart would have after n ticks; n: 0 to 99");
    for (int n : new int[] {0, 1, 2, 98, 99}) {
      HaltRing x = busy();
      HaltRing later = busy();
      if (n > 0) later.tick(n);
      for (int h = 0; h <= 2; h++) {
        for (int what = 0; what <= 9; what++) due("ahead(" + n + ", " + h + ", " + what + ")", x.ahead(n, h, what), later.hart(h, what));
      }
      due("of a counter", Check.with("Ria01ha0").ahead(n, 0, 4), n);
    }
    due("a place behind the last instruction", Check.with(SIXTEEN + "hp0").ahead(1, 0, 0), 16);
  }

  private static void halts() {
    sentence("halts(): the smallest number of ticks, 0 to 60; NONE if there is none");
    for (int ticks : new int[] {1, 2, 59, 60, 61, 62}) {
      // the register is ticks - 1 when the tick of that number begins
      HaltRing x = Check.with(String.format("Ria01ha0t0q0%03d1", ticks - 1));
      due("a trigger after " + ticks, x.halts(0), ticks <= 60 ? ticks : NONE);
      HaltRing group = Check.with(String.format("Ria01ha1ha1t0q0%03d1", ticks - 1));
      due("the group after " + ticks, group.halts(1), ticks <= 60 ? ticks : NONE);
    }
    HaltRing now = Check.with("Ribha0ha0");
    due("by a breakpoint", now.halts(0), 1);
    now.tick(1);
    due("halted now", now.halts(0), 0);
    now.send(1, 0, 0, 0);
    due("halted now, though an order will resume it", now.halts(0), 0);
    for (int h = 0; h <= 3; h++) {
      HaltRing x = Check.with("Ria01ha0ha0ha0ha0");
      x.send(0, h, 0, 0);
      for (int hart = 0; hart <= 3; hart++) due("halts(" + hart + ") by an order to " + h, x.halts(hart), hart == h ? h + 1 : NONE);
    }
    HaltRing back = Check.with("Ria01ha0");
    back.send(0, 0, 0, 0); back.send(1, 0, 0, 0);
    due("halted and resumed in one tick", back.halts(0), NONE);
    due("without a program", Check.with("Rha0t0pa1").halts(0), NONE);
  }

  private static void soonest() {
    sentence("soonest(): after the fewest ticks, 0 to 60");
    for (int ticks = 1; ticks <= 63; ticks++) {
      // trigger 0 is chained to the one that is asked for: the two match in one tick, at one place
      HaltRing x = Check.with(SIXTEEN + String.format("ha0T0q0%03d1t0q09999", ticks - 1));
      due("only in tick " + ticks, x.soonest(1), ticks <= 60 ? (ticks - 1) % 16 : NONE);
    }
    sentence("Returns the place, 0 to 15");
    for (int place = 0; place <= 15; place++) {
      HaltRing x = Check.with(SIXTEEN + "h" + (char) ('a' + place) + "0t0q09999");
      due("the place that it is at, though others are smaller", x.soonest(0), place);
    }
    sentence("of several the smallest place");
    HaltRing halted = halted(SIXTEEN + "hp0t0pp9");
    due("after 0 ticks with each", halted.soonest(0), 0);
    HaltRing order = Check.with(SIXTEEN + "hp0t0pp9");
    order.send(0, 0, 0, 0);
    due("by an order, after 1 tick with each", order.soonest(0), 0);
    HaltRing group = Check.with("Rizia00ia00ibha1hb1t0pa9");
    group.tick(1);
    due("by its group in its sleep, with each", group.soonest(0), 0);
    HaltRing breaks = Check.with("Ria00ibhb0t0pa9");
    due("by a breakpoint in the same tick, with each", breaks.soonest(0), 0);
    HaltRing before = Check.with("Ria00ibha0t0pb9");
    due("by itself before the breakpoint", before.soonest(0), 0);
    HaltRing second = Check.with("Ria00ia00ij1aibhb0t0pa9");
    due("place 1 in tick 1, place 2 in tick 2, .., 0 never", second.soonest(0), 1);
    sentence("soonest(): NONE if the hart would be halted with no place");
    HaltRing sleeps = Check.with("Rizha0t0pb1");
    due("awake", sleeps.soonest(0), 0);
    sleeps.tick(1);
    due("asleep", sleeps.soonest(0), NONE);
    due("without a program", Check.with("Rha0t0pa1").soonest(0), NONE);
  }

  private static void soonestSupposes() {
    sentence("supposing that this trigger were of kind 0 with this place, with count 1, 1 left, not chained");
    HaltRing count = Check.with("Ria01ha0t0pa9");
    due("count 1: its place", count.soonest(0), 0);
    HaltRing chained = Check.with("Ria01ij0ahb0T0pa9t0q09991");
    due("not chained", chained.soonest(0), 1);
    sentence("and everything else were as it is");
    HaltRing next = Check.with("Ria01ij0ahb0T0q09991t0pb1");
    due("the one before it is chained to it", next.soonest(1), NONE);
    due("that one, alone", next.soonest(0), 0);
    HaltRing left = Check.with("Ria01ia01ia01ha0T0pa2t0q09999");
    left.tick(3);
    due("the first of its chain needs two matches: at place 0 again, in tick 4", left.soonest(1), 0);
    due("nothing changes", left.trigger(0, 5), 2);
    HaltRing other = Check.with("Ria01ia01ia01hb0hc0t1pc1t0pa9");
    due("another hart's trigger does not matter", other.soonest(1), 1);
  }

  private static void all() {
    sentence("all(): the smallest number of ticks, 0 to 60; NONE if there is none");
    for (int ticks : new int[] {1, 2, 59, 60, 61, 62}) {
      HaltRing x = Check.with(String.format("Ria01ha0hb0t0q0%03d1t1q0%03d1", ticks - 1, 0));
      due("the last one after " + ticks, x.all(0), ticks <= 60 ? ticks : NONE);
    }
    HaltRing now = Check.with("Ribha0ha0");
    now.tick(1);
    for (int set = 0; set <= 3; set++) due("all(" + set + ") where all are halted", now.all(set), 0);
    due("without harts", new HaltRing().all(0), 0);
    sentence("if the order halt were sent now to each hart of a set");
    for (int harts = 1; harts <= 4; harts++) {
      HaltRing x = Check.with("Ria01" + "ha0".repeat(harts));
      for (int set = 0; set < 1 << harts; set++) {
        due("all(" + set + ") of " + harts, x.all(set), set == (1 << harts) - 1 ? harts : NONE);
      }
    }
    sentence("as if the queue had room; orders on their way go on");
    HaltRing full = Check.with("Ria01ha0ha0ha0ha0");
    for (int i = 0; i < 8; i++) full.send(1, i % 4, 0, 0);
    due("a full queue", full.all(15), 4);
    due("and one hart less", full.all(7), NONE);
    HaltRing helped = Check.with("Ria01ha0ha0ha0ha0");
    for (int i = 0; i < 8; i++) helped.send(0, 2 + i % 2, 0, 0);
    due("the orders on their way halt the others", helped.all(3), 4);
    helped.tick(2);
    due("two ticks later", helped.all(3), 2);
    HaltRing reset = Check.with("Ria01ha0");
    reset.send(0, 0, 0, 0); reset.tick(1); reset.send(1, 0, 0, 0);
    due("halted now, though an order will resume it", reset.all(0), 0);
    HaltRing behind = Check.with("Ria01ha0");
    behind.send(1, 0, 0, 0);
    due("a halt that is sent now comes behind", behind.all(1), 1);
  }

  private static void crew() {
    sentence("crew(): the set for which all() returns the fewest ticks; of several the one with the fewest harts; of several the smallest");
    due("without harts", new HaltRing().crew(), 0);
    for (int harts = 1; harts <= 4; harts++) {
      due(harts + " harts", Check.with("Ria01" + "ha0".repeat(harts)).crew(), (1 << harts) - 1);
      due(harts + " harts of one group", Check.with("Ria01" + "ha1".repeat(harts)).crew(), 1);
      due(harts + " halted ones", step(Check.with("Rib" + "ha0".repeat(harts))).crew(), 0);
    }
    due("the fewest ticks, not the fewest harts", Check.with("Ria01ha0ha1ha0ha1").crew(), 7);
    due("the fewest ticks, with the fewest harts", Check.with("Ria01ha1ha2ha1ha2").crew(), 3);
    due("the last alone, where the others are halted", lastRuns().crew(), 8);
    due("nobody, as soon as with one", Check.with("Ria01ha1t0q00001").crew(), 0);
    due("one, a tick sooner than nobody", Check.with("Ria01ibha0").crew(), 1);
    due("hart 1 or hart 2 for their group: the smaller set", Check.with("Ria01ha0ha2ha2ha0").crew(), 11);
    // the harts 0 and 1 break in tick 3; hart 2 meets its chain in tick 3 if neither of them wrote cell 0 in tick 2
    HaltRing fewer = Check.with("Ria01iw00ibia11il00ia11ia11ij1gha0ha0hd0T2pf1t2q00001");
    int[] ticks = {NONE, NONE, NONE, 3, 3, 3, 3, 3};
    for (int set = 0; set <= 7; set++) due("all(" + set + ")", fewer.all(set), ticks[set]);
    due("one hart rather than two, though the set is a larger number", fewer.crew(), 4);
  }

  /** Four halted harts, of which the last was resumed. */
  private static HaltRing lastRuns() {
    HaltRing x = Check.with("Ribia01ij0bha0ha0ha0ha0");
    x.tick(1); x.send(1, 3, 0, 0); x.tick(5);
    due("halted", x.count(4), 7);
    return x;
  }

  private static void which() {
    sentence("which(): the harts for which all sights are true; n: 0 to 9");
    for (int harts = 0; harts <= 4; harts++) due("no sights, " + harts + " harts", Check.with("R" + "ha0".repeat(harts)).which(), (1 << harts) - 1);
    for (int n = 0; n <= 9; n++) {
      for (int v = 0; v <= 10; v++) {
        HaltRing x = Check.with("Ria01ha0");
        x.see(n, 2, v);
        due("a counter is " + v + " after " + n, x.which(), n == v ? 1 : 0);
      }
    }
    sentence("0 its program counter is v; 1 it runs (v is 0), sleeps (1), is halted (2); 2 its register 0 is v");
    HaltRing x = Check.with("Rizibia01ha0hb0hc0hp0");
    x.tick(1);
    int[] sets = {4, 9, 2};
    for (int v = 0; v <= 2; v++) {
      x.unsee(); x.see(0, 1, v);
      due("mode " + v, x.which(), sets[v]);
    }
    HaltRing place = Check.with("Rha0hb0ho0hp0");
    for (int v : new int[] {0, 1, 14, 15}) {
      place.unsee(); place.see(9, 0, v);
      due("place " + v, place.which(), v == 0 ? 1 : v == 1 ? 2 : v == 14 ? 4 : 8);
    }
    HaltRing register = halted("Ria00ha0", 999);
    register.see(0, 2, 999);
    due("register 0 is 999", register.which(), 1);
    register.see(0, 2, 998);
    due("and 998", register.which(), 0);
    sentence("all sights are true: each of the six");
    for (int wrong = 0; wrong <= 6; wrong++) {
      HaltRing six = Check.with("Ria01ha0");
      for (int i = 0; i < 6; i++) six.see(i, 2, i == wrong ? i + 1 : i);
      due("number " + wrong + " is wrong", six.which(), wrong < 6 ? 0 : 1);
    }
    sentence("from the state at the time of the question");
    HaltRing time = Check.with("Ria01ha0");
    time.see(9, 2, 108);
    due("at the beginning", time.which(), 0);
    time.tick(99);
    due("after 99 ticks", time.which(), 1);
  }

  private static void dueFraction(String name, long upper, long lower, long wantUpper, long wantLower) {
    due(name + ", numerator", upper, wantUpper);
    due(name + ", denominator", lower, wantLower);
  }

  private static void dueShare(String name, HaltRing x, int trigger, int upper, int lower) {
    dueFraction("share of " + trigger + ", " + name, x.share(trigger, true), x.share(trigger, false), upper, lower);
  }

  private static void dueLost(String name, HaltRing x, int p, long upper, long lower) {
    dueFraction("lost with " + p + ", " + name, x.lost(p, true), x.lost(p, false), upper, lower);
  }

  private static void share() {
    sentence("share(): the sum, over the next 20 ticks, of the number of harts that are halted after the tick");
    for (int ticks : new int[] {1, 2, 19, 20, 21, 22}) {
      HaltRing x = Check.with(String.format("Ria01ha0t0q0%03d1", ticks - 1));
      dueShare("halted in tick " + ticks, x, 0, ticks <= 20 ? 21 - ticks : 0, 1);
      HaltRing group = Check.with(String.format("Ria01ha1ha1ha1ha1t0q0%03d1", ticks - 1));
      dueShare("four harts halted in tick " + ticks, group, 0, ticks <= 20 ? 4 * (21 - ticks) : 0, 1);
    }
    sentence("all sequences being equally likely: one to six triggers that are alike");
    int[][] alike = {{20, 1}, {10, 1}, {20, 3}, {5, 1}, {4, 1}, {10, 3}};
    for (int n = 1; n <= 6; n++) {
      HaltRing x = Check.with("Ria01ha0" + "t0pa1".repeat(n));
      for (int t = 0; t < n; t++) dueShare("one of " + n, x, t, alike[n - 1][0], alike[n - 1][1]);
      HaltRing chain = Check.with("Ria01ha0" + "T0pa1".repeat(n));
      for (int t = 0; t < n; t++) dueShare("a chain of " + n, chain, t, alike[n - 1][0], alike[n - 1][1]);
    }
    sentence("those that have not come yet never match, so chains with one of them do not match either");
    HaltRing mixed = Check.with("Ria01ha0T0pa1t0pa1t0pa1");
    dueShare("a half of a pair", mixed, 0, 10, 3);
    dueShare("a half of a pair", mixed, 1, 10, 3);
    dueShare("the single one", mixed, 2, 40, 3);
    HaltRing useless = Check.with("Ria01ha0t0pa1t0q09991");
    dueShare("all", useless, 0, 20, 1);
    dueShare("nothing", useless, 1, 0, 1);
    sentence("forecasts (nothing changes): what share() left out is there again, on a board with more triggers too");
    HaltRing board = Check.with("Ria01ha0t0q09991");
    board.share(0, true);
    board.wipe();
    Check.write(board, "Ria01ha0t0q09991t0q00021");
    board.board();
    due("halts(0)", board.halts(0), 3);
    due("ahead(3, 0, 1)", board.ahead(3, 0, 1), 2);
    due("all(0)", board.all(0), 3);
    dueShare("the second", board, 1, 18, 1);
    sentence("the number left goes on from the present state");
    HaltRing left = Check.with("Ria01ha0t0pa9");
    dueShare("nine matches", left, 0, 12, 1);
    left.tick(8);
    dueShare("one match is left", left, 0, 20, 1);
  }

  private static void shareParts() {
    sentence("It can be negative; the denominator is positive");
    // with trigger 0 hart 0 is halted in tick 2 (19), and its w does not wake the others, who would break in tick 3 (54)
    HaltRing x = Check.with("Rij1bia11iw17izibhb0hd0hd0hd0t0pc1");
    dueShare("one trigger", x, 0, -35, 1);
    HaltRing two = Check.with("Rij1bia11iw17izibhb0hd0hd0hd0t0pc1t0pc1");
    for (int t = 0; t <= 1; t++) dueShare("one of two", two, t, -35, 2);
    HaltRing six = Check.with("Rij1bia11iw17izibhb0hd0hd0hd0" + "t0pc1".repeat(6));
    for (int t = 0; t <= 5; t++) dueShare("one of six", six, t, -35, 6);
    sentence("share(): in lowest terms, 0 is 0 / 1");
    HaltRing halted = halted("Ria01ha0t0pa1t0pa1");
    for (int t = 0; t <= 1; t++) dueShare("halted already", halted, t, 0, 1);
    // 0 makes the difference if 1 came before it (1/2), but not also 2 to 5 (1/6); 2 if 3 to 5 did (1/4), but not also 0 and 1
    HaltRing pair = Check.with("Ria01ha0T0pa1t0pa1T0pa1T0pa1T0pa1t0pa1");
    for (int t = 0; t <= 5; t++) dueShare("a pair and a chain of four", pair, t, t < 2 ? 20 : 5, 3);
    // halted in tick 20, so worth 1: 0 makes the difference if just 1 and 2 came before it, 2! * 3! of 6! sequences;
    // 3 if 4 and 5 did not (1/3), nor just 0, 1 and 2 (1/60)
    HaltRing sixty = Check.with("Ria01ha0T0q00191T0q00191" + "t0q00191".repeat(4));
    for (int t = 0; t <= 5; t++) dueShare("a chain of three, and three single ones", sixty, t, t < 3 ? 1 : 19, 60);
  }

  private static void lost() {
    sentence("lost(): the probability that all harts are halted after 10 ticks");
    for (int ticks : new int[] {1, 9, 10, 11, 12}) {
      HaltRing x = Check.with(String.format("Ria01ha0t0q0%03d1", ticks - 1));
      for (int p : new int[] {0, 5, 10}) dueLost("halted in tick " + ticks, x, p, ticks <= 10 ? 1 : 0, 1);
    }
    sentence("lost(): of 1/1 without harts");
    for (int p : new int[] {0, 1, 5, 10}) dueLost("without harts", new HaltRing(), p, 1, 1);
    sentence("each order that is on its way now is lost with the probability x / 10, independently");
    for (int p = 0; p <= 10; p++) {
      HaltRing one = Check.with("Ria01ha0");
      one.send(0, 0, 0, 0);
      int g = BigInteger.valueOf(10 - p).gcd(BigInteger.TEN).intValue();
      dueLost("one halt", one, p, (10 - p) / g, 10 / g);
      one.send(1, 0, 0, 0);
      int both = (10 - p) * p;
      int h = BigInteger.valueOf(both).gcd(BigInteger.valueOf(100)).intValue();
      dueLost("a halt and a resume, which must be lost", one, p, both / h, 100 / h);
    }
    sentence("removed from the queue at once");
    HaltRing reached = Check.with("Ria01ha0ha0");
    reached.send(0, 0, 0, 0); reached.send(0, 1, 0, 0); reached.tick(1);
    dueLost("one has reached its hart: only the other counts", reached, 3, 7, 10);
    reached.tick(1);
    dueLost("both have", reached, 3, 1, 1);
    dueLost("both have", reached, 10, 1, 1);
  }

  private static void lostParts() {
    sentence("lost(): in lowest terms, with up to 8 orders on their way");
    HaltRing eight = Check.with("Ria01ha0ha0ha0ha0");
    for (int i = 0; i < 8; i++) eight.send(0, i % 4, 0, 0);
    dueLost("two halts to each", eight, 0, 1, 1);
    dueLost("two halts to each", eight, 1, 99L * 99 * 99 * 99, 100000000);
    dueLost("two halts to each", eight, 5, 81, 256);
    dueLost("two halts to each", eight, 9, 19 * 19 * 19 * 19, 100000000);
    dueLost("two halts to each", eight, 10, 0, 1);
    HaltRing same = Check.with("Ria01ha0");
    for (int i = 0; i < 8; i++) same.send(0, 0, 0, 0);
    dueLost("eight halts to one", same, 1, 99999999, 100000000);
    dueLost("eight halts to one", same, 9, 100000000 - 43046721, 100000000);
    HaltRing seven = Check.with("Ria01ha0");
    for (int i = 0; i < 7; i++) seven.send(1, 0, 0, 0);
    seven.send(0, 0, 0, 0);
    dueLost("the last of eight halts", seven, 3, 7, 10);
    HaltRing first = Check.with("Ria01ha0");
    first.send(0, 0, 0, 0);
    for (int i = 0; i < 7; i++) first.send(1, 0, 0, 0);
    dueLost("the first of eight halts, all others must be lost", first, 1, 9, 100000000);
    dueLost("the first of eight halts, all others must be lost", first, 9, 4782969, 100000000);
  }

  private static void seed() {
    sentence("seed(): Sets the seed. Returns the previous seed");
    HaltRing x = new HaltRing();
    long previous = 0;
    for (long v : new long[] {Long.MIN_VALUE, Long.MAX_VALUE, -1, 0, 1, 1L << 32, -(1L << 32), MAX, MIN}) {
      due("seed(" + v + ")", x.seed(v), previous);
      previous = v;
    }
  }

  private static void drawnSeed() {
    sentence("Before each tick the seed becomes seed * 6364136223846793005 + 1442695040888963407 (long arithmetic with overflow)");
    for (String board : new String[] {"R", "Ria01ha0", "Rha0ha0ha0ha0"}) {
      for (long start : new long[] {0, 1, -1, Long.MIN_VALUE, Long.MAX_VALUE, 1L << 33}) {
        for (int m : new int[] {1, 2, 19, 20}) {
          HaltRing x = Check.with(board);
          x.seed(start);
          int sum = x.drawn(m);
          BigInteger due = BigInteger.valueOf(start);
          for (int i = 0; i < m; i++) due = due.multiply(BigInteger.valueOf(FACTOR)).add(BigInteger.valueOf(STEP));
          due("the seed after drawn(" + m + ") from " + start, x.seed(0), due.longValue());
          if (board.equals("R")) due("without harts", sum, 0);
        }
      }
    }
  }

  /** The seed that becomes a given one. */
  private static long before(long seed) {
    BigInteger all = BigInteger.ONE.shiftLeft(64);
    BigInteger back = BigInteger.valueOf(FACTOR).mod(all).modInverse(all);
    return BigInteger.valueOf(seed).subtract(BigInteger.valueOf(STEP)).multiply(back).longValue();
  }

  private static void drawnOrders() {
    sentence("let v = (int) (seed >>> 33). The order v % 3 is sent to hart v / 4 % (number of harts)");
    for (long v : new long[] {0, 1, 2, 3, 4, 5, 12, 24, 36, MAX, MAX - 1, MAX - 2, 1L << 30, (1L << 30) - 1}) {
      for (int harts = 1; harts <= 4; harts++) {
        for (long low : new long[] {0, (1L << 33) - 1}) {
          HaltRing x = Check.with("Rib" + "ha0".repeat(harts));
          HaltRing y = Check.with("Ria01" + "ha0".repeat(harts));
          long seed = before(v << 33 | low);
          x.seed(seed); y.seed(seed);
          // all break in the tick; or they run, and only a halt to hart 0 comes in time
          due("v " + v + ", all break", x.drawn(1), harts);
          due("v " + v + ", to one of " + harts, y.drawn(1), v % 3 == 0 && v / 4 % harts == 0 ? 1 : 0);
          due("the seed", y.seed(0), v << 33 | low);
        }
      }
    }
    sentence("Returns the sum, over these ticks, of the number of harts that are halted after the tick");
    for (int harts = 1; harts <= 4; harts++) {
      for (long start : new long[] {0, 12345, Long.MIN_VALUE, Long.MAX_VALUE, before(-1), before(0)}) {
        for (int m : new int[] {1, 20}) {
          HaltRing x = Check.with("Ria01" + "ha0".repeat(harts));
          x.seed(start);
          due("drawn(" + m + ") of " + harts + " from " + start, x.drawn(m), played(Check.with("Ria01" + "ha0".repeat(harts)), start, m));
        }
      }
    }
    due("four halted ones, the most", step(Check.with("Ribha0ha0ha0ha0")).drawn(1), 4);
  }

  /** What drawn() is due to answer, by real orders and ticks. */
  private static int played(HaltRing x, long seed, int m) {
    int sum = 0;
    for (int i = 0; i < m; i++) {
      seed = seed * FACTOR + STEP;
      int v = (int) (seed >>> 33);
      if (x.count(5) < 8) x.send(v % 3, v / 4 % x.count(2), 0, 0);
      sum += x.tick(1);
    }
    return sum;
  }

  private static void drawnRoom() {
    sentence("is sent if fewer than 8 orders are on their way; then the tick passes");
    for (int orders = 6; orders <= 8; orders++) {
      HaltRing x = Check.with("Ria01ha0");
      for (int i = 0; i < orders; i++) x.send(1, 0, 0, 0);
      x.seed(before(0));
      due("a halt behind " + orders + " resumes", x.drawn(1), orders < 8 ? 1 : 0);
      due("the seed changes in any case", x.seed(0), 0);
      due("on their way", x.count(5), orders);
    }
  }
}
