import com.sun.management.ThreadMXBean;
import java.lang.management.ManagementFactory;
import java.lang.reflect.Array;
import java.lang.reflect.Field;
import java.lang.reflect.Modifier;
import java.util.IdentityHashMap;
import java.util.Map;

/** What a run makes: an object is small, and no call makes anything. */
final class RoomTest {
  private static final Check check = new Check();

  public static void main(String[] args) throws Exception {
    Map<Object, Integer> sizes = new IdentityHashMap<>();
    measure(new BlindSacks(), sizes);
    int elements = sizes.values().stream().mapToInt(n -> n).sum();
    System.out.println("a new object: " + sizes.size() + " objects and arrays, " + elements + " fields and elements");
    check.holds("few objects: " + sizes.size(), sizes.size() <= 80);
    check.holds("few fields and elements: " + elements, elements <= 2500);
    callsMakeNothing();
    check.end();
  }

  private static void measure(Object o, Map<Object, Integer> sizes) throws IllegalAccessException {
    if (o == null || o instanceof String || sizes.containsKey(o)) {
      return;
    }
    if (o.getClass().isArray()) {
      sizes.put(o, Array.getLength(o));
      for (int i = 0; i < Array.getLength(o) && !o.getClass().getComponentType().isPrimitive(); i++) {
        measure(Array.get(o, i), sizes);
      }
      return;
    }
    sizes.put(o, o.getClass().getDeclaredFields().length);
    for (Field f : o.getClass().getDeclaredFields()) {
      f.setAccessible(true);
      if (!f.getType().isPrimitive() && !Modifier.isStatic(f.getModifiers())) {
        measure(f.get(o), sizes);
      }
    }
  }

  private static void callsMakeNothing() {
    ThreadMXBean bean = (ThreadMXBean) ManagementFactory.getThreadMXBean();
    BlindSacks x = new BlindSacks();
    calls(x);
    long before = bean.getThreadAllocatedBytes(Thread.currentThread().getId());
    for (int k = 0; k < 200; k++) {
      calls(x);
    }
    long made = bean.getThreadAllocatedBytes(Thread.currentThread().getId()) - before;
    // Some bytes are the measuring's own.
    check.holds("calls made " + made + " bytes", made < 2000);
  }

  private static long calls(BlindSacks x) {
    long sum = x.sack(3) + x.buyer(500, 3) + x.mend(1, 0, 5) + x.mend(1, 0, 6) + x.of(1, 0) + x.undo() + x.redo();
    sum += x.feed('p') + x.feed('+') + x.feed('a') + x.law() + x.worthOf(0, 3) + x.row(0, 0, 6) + x.put(0, 1, 2) + x.element(0, 1);
    sum += x.belief(0, 0, 1, 0) + x.likeliest(0, 0, 0) + x.worth(0, 0, 0) + x.next(0, 0) + x.right(0, 0, 1) + x.buys(0, 0, 1);
    sum += x.dealt(-1) + x.groan(0, 0) + x.stock(0, -1) + x.tells(1) + x.byTurns(0, 4, 0) + x.drawn(4, 30, 0, 1) + x.sacks(0, 0, 3);
    sum += x.image() + x.sell(0, 0) + x.open(0) + x.dusk() + x.led(0) + x.back() + x.body(7) + x.act(0, 3, 9) + x.trace(3);
    return sum + x.keep(1, 0) + x.taken(1, 4) + x.shift(0, 0, 0, 1, 3) + x.count(3);
  }
}
