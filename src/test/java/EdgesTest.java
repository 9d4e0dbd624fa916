import java.util.Random;

/** Odd arguments in many states: no call throws, and one that is refused changes nothing. */
final class EdgesTest {
  private static final int RUNS = 150, CALLS = 512;

  public static void main(String[] args) {
    Check check = new Check();
    for (int run = 0; run < RUNS && !check.hasWrong(); run++) {
      Random r = new Random(1000 + run);
      BlindSacks x = new BlindSacks();
      for (int k = 0; k < CALLS; k++) {
        Calls.Call call = r.nextInt(2) == 0 ? Calls.random(r) : Calls.oddCall(r);
        String before = Calls.seen(x);
        long answer = Calls.answer(x, call);
        if (isRefusal(call.name(), answer)) {
          check.holds("run " + run + ", refused " + call + " changed something", before.equals(Calls.seen(x)));
        }
      }
    }
    check.end();
  }

  private static boolean isRefusal(String name, long answer) {
    if (name.equals("act") || name.equals("law")) return false;
    return answer == BlindSacks.BAD || answer == BlindSacks.NOT || answer == BlindSacks.FULL || answer == BlindSacks.STATE
        || answer == BlindSacks.VOID || answer == Long.MIN_VALUE || answer <= -11 && answer >= -14;
  }
}
