import java.lang.management.ManagementFactory;
import java.lang.reflect.Array;
import java.lang.reflect.Field;
import java.lang.reflect.Modifier;
import java.util.IdentityHashMap;
import java.util.Map;

/** All objects of a run live in one room: a new object is small, and its calls make nothing. */
public final class RoomTest {
  private static final Check check = new Check("room");
  private static final int CALLS = 512, OBJECTS = 600_000, ELEMENTS = 7_300_000;
  private static final String BOARD = "Ria01iw07ij0aizibha1hb2hc0ha2t0pb3T1q00022t1pb1t2pd4t3pa9t0q10001";

  public static void main(String[] args) throws IllegalAccessException {
    size();
    calls();
    check.end();
  }

  /** A run may be made of new objects alone. */
  private static void size() throws IllegalAccessException {
    Map<Object, Boolean> seen = new IdentityHashMap<>();
    long elements = weigh(new HaltRing(), seen);
    check.due("objects: " + seen.size(), seen.size() * (long) CALLS < OBJECTS);
    check.due("fields and elements: " + elements, elements * CALLS < ELEMENTS);
  }

  private static long weigh(Object o, Map<Object, Boolean> seen) throws IllegalAccessException {
    if (o == null || seen.put(o, true) != null) return 0;
    long sum = 0;
    if (o.getClass().isArray()) {
      sum = Array.getLength(o);
      if (o instanceof Object[] row) for (Object part : row) sum += weigh(part, seen);
      return sum;
    }
    for (Field f : o.getClass().getDeclaredFields()) {
      if (Modifier.isStatic(f.getModifiers())) continue;
      sum++;
      f.setAccessible(true);
      if (!f.getType().isPrimitive()) sum += weigh(f.get(o), seen);
    }
    return sum;
  }

  private static void calls() {
    var threads = (com.sun.management.ThreadMXBean) ManagementFactory.getThreadMXBean();
    HaltRing x = Check.with(BOARD);
    for (int i = 0; i < 20; i++) callAll(x, i);
    long me = Thread.currentThread().getId();
    long before = threads.getThreadAllocatedBytes(me);
    for (int i = 0; i < 50; i++) callAll(x, i);
    long bytes = threads.getThreadAllocatedBytes(me) - before;
    check.due("bytes made by 50 rounds of all calls: " + bytes, bytes < 20_000);
  }

  private static int callAll(HaltRing x, int i) {
    int sum = x.wipe();
    for (int at = 0; at < BOARD.length(); at++) sum += x.write(BOARD.charAt(at));
    sum += x.fault() + x.board() + x.hart(0, 0) + x.trigger(0, 0) + x.cell(0) + x.order(0, 0);
    for (int n = 0; n < 8; n++) sum += x.send((n + i) % 6, n % 4, 0, 0);
    sum += x.tick(1 + i % 3) + x.set(0, 0, 1, 0, 1, true) + x.buffer(0, 101) + x.clear() + x.poke(0, i) + x.undo();
    sum += x.ahead(99, 0, 0) + x.halts(0) + x.soonest(0) + x.all(15) + x.crew() + x.judge(3, 150000200000300000L);
    sum += x.see(1, 1, 1) + x.which() + x.unsee() + x.share(0, true) + x.lost(3, true) + (int) x.seed(i) + x.drawn(20);
    return sum + x.keep(0) + x.again(0) + x.count(0);
  }
}
