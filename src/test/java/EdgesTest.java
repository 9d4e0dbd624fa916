import java.util.ArrayList;
import java.util.List;
import java.util.Random;

/** Odd arguments in many states: no call throws, and one that is refused changes nothing. */
final class EdgesTest {
  private static final int RUNS = 150, CALLS = 512;

  private final Check check = new Check();

  public static void main(String[] args) {
    EdgesTest test = new EdgesTest();
    for (int run = 0; run < RUNS && !test.check.hasWrong(); run++) test.run(run);
    test.check.end();
  }

  private void run(int run) {
    Random r = new Random(1000 + run);
    BlindSacks x = new BlindSacks();
    List<Calls.Call> taken = new ArrayList<>();
    List<Long> answers = new ArrayList<>();
    for (int k = 0; k < CALLS; k++) {
      Calls.Call call = r.nextInt(2) == 0 ? Calls.random(r) : Calls.oddCall(r);
      String before = Calls.seen(x);
      long answer = Calls.answer(x, call);
      if (isRefusal(call.name(), answer)) {
        check.holds("run " + run + ", refused " + call + " changed something", before.equals(Calls.seen(x)));
      } else {
        taken.add(call);
        answers.add(answer);
      }
    }
    again(run, taken, answers);
  }

  /** What can't be seen at once, as what may be DONE AGAIN, is the same as if the refused calls had not come. */
  private void again(int run, List<Calls.Call> taken, List<Long> answers) {
    BlindSacks x = new BlindSacks();
    for (int k = 0; k < taken.size(); k++) {
      check.due("run " + run + " without refused calls, " + taken.get(k), Calls.answer(x, taken.get(k)), answers.get(k));
    }
  }

  private static boolean isRefusal(String name, long answer) {
    if (name.equals("act") || name.equals("law")) return false;
    // What is lost by days, and an element, may be below 0.
    boolean bare = name.equals("drawn") || name.equals("element");
    if (bare) return answer == BlindSacks.VOID || answer == Long.MIN_VALUE;
    return answer == BlindSacks.BAD || answer == BlindSacks.NOT || answer == BlindSacks.FULL || answer == BlindSacks.STATE
        || answer == BlindSacks.VOID || answer == Long.MIN_VALUE || answer <= -11 && answer >= -14;
  }
}
