/** Promises 30 to 32: bodies, their acts, the trace. */
final class ActsTest {
  private static final Check check = new Check();

  public static void main(String[] args) {
    body();
    acts();
    wraps();
    noSuchAct();
    check.end();
  }

  // Promise 30
  private static void body() {
    BlindSacks x = new BlindSacks();
    check.due("30 KIND -1", x.body(-1), -1);
    check.due("30 KIND 8", x.body(8), -1);
    for (int k = 0; k < 50; k++) check.due("30 body", x.body(k % 8), k);
    check.due("30 FULL", x.body(0), -3);
    check.due("30 BAD ahead of FULL", x.body(8), -1);
    check.due("30 fifty", x.count(4), 50);
    check.due("31 the last one's number is n", x.act(49, 0, 1), 53);
  }

  /** The body of number 10 + kind does an act with x. */
  private static void act(int kind, int act, int x, int due, int... trace) {
    BlindSacks b = new BlindSacks();
    for (int k = 0; k < 10; k++) b.body(0);
    for (int k = 0; k < 8; k++) b.body(k);
    String what = "31 act " + act + " of KIND " + kind;
    check.due(what, b.act(10 + kind, act, x), due);
    check.due(what + ": how many ran", b.count(5), trace.length);
    for (int i = 0; i < trace.length; i++) check.due("32 trace " + i + " of " + what, b.trace(i), trace[i]);
    check.due("32 behind the trace of " + what, b.trace(trace.length), -1);
    check.due("32 ahead of the trace of " + what, b.trace(-1), -1);
  }

  // Promises 31 and 32; n is 10 + kind
  private static void acts() {
    act(0, 0, 5, 15, 1);
    act(0, 1, 5, 30, 10, 1);
    act(0, 2, 5, 15, 11);
    act(0, 3, 5, 30 - 11, 2, 10, 1, 11);
    act(1, 0, 5, 19, 20, 1);
    act(1, 1, 5, 38, 10, 20, 1);
    act(1, 2, 5, 14, 11);
    act(1, 3, 5, 38 - 10, 2, 10, 20, 1, 11);
    act(2, 0, 5, 17, 1);
    act(2, 1, 5, -34, 30, 10, 1);
    act(2, 2, 5, 9, 11);
    act(2, 3, 5, -34 - 13, 2, 30, 10, 1, 11);
    act(3, 0, 5, 18, 1);
    act(3, 1, 5, -38, 41, 30, 10, 1);
    act(3, 2, 5, 24, 40, 11);
    act(3, 3, 5, -38 - 36, 2, 41, 30, 10, 1, 40, 11);
    act(4, 0, 5, 22, 20, 1);
    act(4, 1, 5, 44, 10, 20, 1);
    act(4, 2, 5, 11 - 19, 50, 11, 20, 1);
    act(4, 3, 5, 44 - (15 - 19), 2, 10, 20, 1, 50, 11, 20, 1);
    act(5, 0, 5, 20, 1);
    act(5, 1, 5, -42, 41, 30, 10, 1);
    act(5, 2, 5, 30, 40, 11);
    act(5, 3, 5, (-42 - 42) ^ 5, 60, 2, 41, 30, 10, 1, 40, 11);
    act(6, 0, 5, 42, 70, 1);
    act(6, 1, 5, 84, 10, 70, 1);
    act(6, 2, 5, 21, 11);
    act(6, 3, 5, 84 - 17, 2, 10, 70, 1, 11);
    act(7, 0, 5, 25, 20, 1);
    // shakes(2): (2 ^ 17) - ties(2) = 19 - 22
    act(7, 1, 5, 50 - 3, 80, 10, 20, 1, 50, 11, 20, 1);
    act(7, 2, 5, 20 - 22, 50, 11, 20, 1);
    // shakes(1): (1 ^ 17) - 22 = -6
    act(7, 3, 5, 47 + 6 - 1, 81, 2, 80, 10, 20, 1, 50, 11, 20, 1, 50, 11, 20, 1);
  }

  private static void wraps() {
    act(0, 0, Integer.MAX_VALUE, Integer.MIN_VALUE + 9, 1);
    act(0, 1, Integer.MAX_VALUE, 18, 10, 1);
    act(0, 2, -1, -11, 11);
    act(3, 1, Integer.MAX_VALUE, -2 * (Integer.MIN_VALUE + 13), 41, 30, 10, 1);
  }

  private static void noSuchAct() {
    BlindSacks x = new BlindSacks();
    check.due("31 no body", x.act(0, 0, 7), 0);
    x.body(0);
    int[][] none = {{1, 0}, {-1, 0}, {0, 4}, {0, -1}};
    for (int[] n : none) {
      check.due("31 act", x.act(0, 3, 7), 14 - 1);
      check.due("32 trace", x.trace(0), 2);
      check.due("31 no such", x.act(n[0], n[1], 7), 0);
      check.due("32 no TRACE then", x.trace(0), -1);
      check.due("39 none ran", x.count(5), 0);
    }
    x.act(0, 3, 7);
    x.act(0, 0, 7);
    check.due("32 the latest act alone", x.trace(1), -1);
    check.due("32 its body", x.trace(0), 1);
  }
}
