import java.lang.reflect.InvocationTargetException;
import java.lang.reflect.Method;
import java.util.ArrayList;
import java.util.List;
import java.util.Random;

/** Every call of the face with what its arguments are, to make random runs of them. */
final class Calls {
  /** A call's name, how often it comes, and what each argument is. */
  static final String[] SPECS = {
    "sack 6 good", "sacks 6 shelf place n10", "buyer 4 purse wants", "mend 40 number what value", "of 10 number what",
    "feed 0 letter", "law 1", "worthOf 8 buyer sg", "belief 10 shelf bs good part", "likeliest 8 shelf bs part",
    "worth 8 shelf bs part", "next 6 shelf bs", "right 8 shelf bs part", "buys 6 shelf buyer part", "dealt 6 buyer",
    "groan 6 shelf three", "stock 6 shelf sg", "tells 3 part", "byTurns 8 bs n4 part", "drawn 6 any n30 buyer part",
    "sell 8 sackno buyer", "open 4 sackno", "dusk 1", "led 4 five", "image 2", "back 2", "undo 8", "redo 5",
    "body 4 kind", "act 8 body act any", "trace 5 thirty", "keep 3 shelf body", "row 6 shelf sort length",
    "put 60 shelf place small", "element 5 shelf place", "shift 5 shelf place shelf place length", "taken 5 shelf kind",
    "count 5 six",
  };

  record Call(String name, List<Object> arguments) {
    @Override public String toString() { return name + arguments; }
  }

  static Call random(Random r) {
    int sum = 0;
    for (String spec : SPECS) sum += Integer.parseInt(spec.split(" ")[1]);
    int k = r.nextInt(sum);
    for (String spec : SPECS) {
      String[] words = spec.split(" ");
      k -= Integer.parseInt(words[1]);
      if (k < 0) return made(words, r);
    }
    throw new IllegalStateException();
  }

  private static Call made(String[] words, Random r) {
    List<Object> arguments = new ArrayList<>();
    for (int i = 2; i < words.length; i++) arguments.add(argument(words[i], r));
    if (words[0].equals("put")) arguments.set(2, ((Integer) arguments.get(2)).longValue());
    return new Call(words[0], arguments);
  }

  private static Integer argument(String sort, Random r) {
    if (r.nextInt(60) == 0) return odd(r);
    return switch (sort) {
      case "good", "wants", "six" -> r.nextInt(6);
      case "shelf" -> Math.min(5, r.nextInt(4) + (r.nextInt(6) == 0 ? 2 : 0));
      case "place" -> r.nextInt(3) == 0 ? r.nextInt(62) : r.nextInt(12);
      case "n10" -> 1 + r.nextInt(10);
      case "n4" -> 1 + r.nextInt(4);
      case "n30" -> 1 + r.nextInt(30);
      case "purse" -> r.nextInt(3) == 0 ? r.nextInt(1000) : r.nextInt(120);
      case "number" -> r.nextInt(7);
      case "what" -> r.nextInt(11);
      case "value" -> r.nextInt(2) == 0 ? r.nextInt(4) : r.nextInt(100);
      case "letter" -> r.nextInt(256);
      case "buyer" -> r.nextInt(7) - 1;
      case "sg" -> r.nextInt(8) == 0 ? -1 : 10 * r.nextInt(10) + r.nextInt(6);
      case "bs" -> 10 * r.nextInt(5) + r.nextInt(8);
      case "part" -> r.nextInt(2);
      case "three" -> r.nextInt(3);
      case "five", "sort" -> r.nextInt(3) > 0 ? 0 : r.nextInt(5);
      case "sackno" -> r.nextInt(10);
      case "kind" -> r.nextInt(8);
      case "body" -> r.nextInt(20) - 1;
      case "act" -> r.nextInt(4);
      case "thirty" -> r.nextInt(30);
      case "length" -> r.nextInt(3) == 0 ? 6 : r.nextInt(61);
      case "small" -> r.nextInt(20) == 0 ? r.nextInt() : r.nextInt(3) == 0 ? r.nextInt(12) : r.nextInt(4);
      case "any" -> r.nextInt();
      default -> throw new IllegalStateException(sort);
    };
  }

  static int odd(Random r) {
    int[] odds = {Integer.MIN_VALUE, Integer.MIN_VALUE + 1, -1000, -100, -11, -10, -3, -2, -1, 0, 1, 2, 3, 4, 5, 6, 7, 8, 9, 10,
      11, 12, 31, 49, 50, 59, 60, 61, 69, 99, 100, 120, 255, 256, 999, 1000, Integer.MAX_VALUE - 1, Integer.MAX_VALUE};
    return odds[r.nextInt(odds.length)];
  }

  /** A call with odd arguments alone. */
  static Call oddCall(Random r) {
    String[] words = SPECS[r.nextInt(SPECS.length)].split(" ");
    List<Object> arguments = new ArrayList<>();
    for (int i = 2; i < words.length; i++) arguments.add(odd(r));
    if (words[0].equals("put")) {
      long[] longs = {Long.MIN_VALUE, Long.MAX_VALUE, -1, 0, 1, 128, 1L << 40};
      arguments.set(2, longs[r.nextInt(longs.length)]);
    }
    return new Call(words[0], arguments);
  }

  static long answer(Object of, Call call) {
    try {
      for (Method m : of.getClass().getDeclaredMethods()) {
        if (m.getName().equals(call.name()) && m.getParameterCount() == call.arguments().size()) {
          m.setAccessible(true);
          return ((Number) m.invoke(of, call.arguments().toArray())).longValue();
        }
      }
    } catch (InvocationTargetException e) {
      throw new IllegalStateException(call + " threw " + e.getCause(), e.getCause());
    } catch (IllegalAccessException e) {
      throw new IllegalStateException(e);
    }
    throw new IllegalStateException("no call " + call);
  }

  /** All that can be asked of an object without a change. */
  static String seen(BlindSacks x) {
    StringBuilder b = new StringBuilder();
    for (int what = 0; what <= 10; what++) {
      for (int n = 0; n < 10; n++) b.append(x.of(n, what)).append(' ');
    }
    for (int k = 0; k < 6; k++) b.append(x.count(k)).append(' ').append(x.led(k)).append(' ');
    for (int i = 0; i < 24; i++) b.append(x.trace(i)).append(' ');
    for (int shelf = 0; shelf < 6; shelf++) {
      for (int k = 0; k < 8; k++) b.append(x.taken(shelf, k)).append(' ');
      for (int i = 0; i < 60; i++) b.append(x.element(shelf, i)).append(' ');
    }
    for (int buyer = 0; buyer < 6; buyer++) {
      for (int sg = 0; sg < 100; sg++) b.append(x.worthOf(buyer, sg)).append(' ');
    }
    return b.toString();
  }
}
