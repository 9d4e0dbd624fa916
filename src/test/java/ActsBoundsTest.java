/** The boundaries that the document names for promises 30 to 32: bodies, acts, the trace. */
final class ActsBoundsTest {
  private static final String ACT = "An ACT (0 .. 3) of a KNOT with x. 0, and no TRACE then: no such KNOT, ACT.";

  public static void main(String[] args) throws Exception {
    Bounds.run(ActsBoundsTest.class, 30, 32);
  }

  // Promise 30

  @Says(promise = 30, value = "A KNOT of a KIND (0 .. 7) is kept: its number. BAD, FULL.")
  static void kindsAtTheEnds(Case c) {
    c.due(c.x.body(0), 0);
    c.due(c.x.body(7), 1);
    c.x.keep(0, 0);
    c.x.keep(1, 1);
    c.due(c.x.taken(0, 0), 0);
    c.due(c.x.taken(1, 0), 7);
  }

  @Says(promise = 30, value = "A KNOT of a KIND (0 .. 7) is kept: its number. BAD, FULL.")
  static void kindsBeyondTheEnds(Case c) {
    for (int none : new int[] {-1, 8, Case.LEAST, Case.MOST}) c.refused(Case.BAD, () -> c.x.body(none));
    c.due(c.x.count(4), 0);
  }

  @Says(promise = 30, value = "BODIES 0 .. 49")
  static void fiftyBodies(Case c) {
    for (int k = 0; k <= 49; k++) c.due(c.x.body(k % 8), k);
    c.due(c.x.count(4), 50);
    for (int k = 0; k <= 49; k++) c.due(c.x.act(k, 2, 0), shaken(k % 8, k));
  }

  /** shakes(0) of number n, by KIND. */
  private static int shaken(int kind, int n) {
    boolean thrice = kind == 3 || kind == 5, china = kind == 4 || kind == 7;
    return thrice ? 3 * n : china ? n - (2 + n + 3) : n;
  }

  @Says(promise = 30, value = "A KNOT of a KIND (0 .. 7) is kept: its number. BAD, FULL.")
  static void theFiftyFirstBody(Case c) {
    for (int k = 0; k < 50; k++) c.x.body(1);
    c.refused(Case.FULL, () -> c.x.body(0));
    c.refused(Case.BAD, () -> c.x.body(8));
    c.refused(Case.BAD, () -> c.x.body(-1));
    c.due(c.x.count(4), 50);
  }

  // Promise 31

  @Says(promise = 31, value = ACT)
  static void actsAtTheEnds(Case c) {
    c.x.body(0);
    c.due(c.x.act(0, 0, 7), 7);
    c.due(c.x.act(0, 3, 7), 13);
  }

  @Says(promise = 31, value = ACT)
  static void noSuchAct(Case c) {
    c.x.body(0);
    for (int none : new int[] {-1, 4, Case.LEAST, Case.MOST}) {
      c.x.act(0, 3, 7);
      c.due(c.x.count(5), 4);
      c.due(c.x.act(0, none, 7), 0);
      c.due(c.x.count(5), 0);
      c.due(c.x.trace(0), Case.BAD);
    }
  }

  @Says(promise = 31, value = ACT)
  static void noSuchKnot(Case c) {
    c.due(c.x.act(0, 0, 7), 0);
    c.x.body(0);
    c.x.body(0);
    for (int none : new int[] {-1, 2, 49, 50, Case.LEAST, Case.MOST}) {
      c.due(c.x.act(1, 0, 7), 8);
      c.due(c.x.count(5), 1);
      c.due(c.x.act(none, 0, 7), 0);
      c.due(c.x.count(5), 0);
      c.due(c.x.trace(0), Case.BAD);
    }
  }

  @Says(promise = 31, value = "x (an int that wraps)")
  static void tiesWraps(Case c) {
    c.x.body(0);
    c.x.body(0);
    c.due(c.x.act(1, 0, Case.MOST), Case.LEAST);
    c.due(c.x.act(0, 0, Case.MOST), Case.MOST);
    c.due(c.x.act(1, 0, -1), 0);
    c.due(c.x.act(1, 0, Case.LEAST), Case.LEAST + 1);
  }

  @Says(promise = 31, value = "x (an int that wraps)")
  static void sellsWraps(Case c) {
    c.x.body(0);
    c.due(c.x.act(0, 1, 1 << 30), Case.LEAST);
    c.due(c.x.act(0, 1, Case.MOST), -2);
    c.due(c.x.act(0, 1, Case.LEAST), 0);
  }

  @Says(promise = 31, value = "x (an int that wraps)")
  static void turnedAndOneMoreWraps(Case c) {
    c.x.body(2);
    c.x.body(3);
    // TIER 0: -(ties(x) * 2); CORPSE 1: of x + 1
    c.due(c.x.act(0, 1, 1 << 30), Case.LEAST);
    c.due(c.x.act(1, 1, Case.MOST), -2);
    c.due(c.x.act(1, 1, (1 << 30) - 2), Case.LEAST);
  }

  @Says(promise = 31, value = "x (an int that wraps)")
  static void shakesWraps(Case c) {
    c.x.body(3);
    c.x.body(4);
    c.due(c.x.act(0, 2, Case.MOST), Case.MOST - 2);
    c.due(c.x.act(0, 2, Case.LEAST), Case.LEAST);
    c.due(c.x.act(0, 2, -1), -3);
    // CHINA 1: (x ^ 1) - (2 + 1 + 3)
    c.due(c.x.act(1, 2, Case.LEAST), Case.MOST - 4);
    c.due(c.x.act(1, 2, -1), -8);
  }

  @Says(promise = 31, value = "x (an int that wraps)")
  static void tellsWraps(Case c) {
    c.x.body(0);
    c.x.body(6);
    // KNOT 0: 2 * x - 1; CAT 1: 4 * (x + 1) - 0
    c.due(c.x.act(0, 3, 1 << 30), Case.MOST);
    c.due(c.x.act(0, 3, Case.LEAST), -1);
    c.due(c.x.act(1, 3, Case.MOST), 0);
    c.due(c.x.act(1, 3, 1 << 29), Case.LEAST + 4);
  }

  // Promise 32

  @Says(promise = 32, value = "THE TRACE's i-th body. BAD.")
  static void noTraceAtFirst(Case c) {
    for (int i : new int[] {-1, 0, 1, 23, 24, Case.LEAST, Case.MOST}) c.refused(Case.BAD, () -> c.x.trace(i));
    c.due(c.x.count(5), 0);
  }

  @Says(promise = 32, value = "THE TRACE's i-th body. BAD.")
  static void aTraceOfOne(Case c) {
    c.x.body(0);
    c.x.act(0, 2, 1);
    c.due(c.x.trace(0), 11);
    for (int i : new int[] {-1, 1, 24, Case.LEAST, Case.MOST}) c.refused(Case.BAD, () -> c.x.trace(i));
  }

  @Says(promise = 32, value = "as they began; the first 24 are kept")
  static void theLongestTrace(Case c) {
    c.x.body(7);
    c.x.act(0, 3, 1);
    int[] due = {81, 2, 80, 10, 20, 1, 50, 11, 20, 1, 50, 11, 20, 1};
    c.due(c.x.count(5), due.length);
    for (int i = 0; i < due.length; i++) c.due(c.x.trace(i), due[i]);
    c.due(c.x.trace(due.length), Case.BAD);
  }

  @Says(promise = 32, value = "as they began; the first 24 are kept")
  static void theLongestTraceOfTheLastBody(Case c) {
    for (int k = 0; k < 50; k++) c.x.body(7);
    c.x.act(49, 3, 1);
    c.due(c.x.trace(0), 81);
    c.due(c.x.trace(13), 1);
    c.due(c.x.trace(14), Case.BAD);
  }

  @Says(promise = 32, value = "numbers of the bodies that ran in the latest act()")
  static void aShorterActBehindALongerOne(Case c) {
    c.x.body(7);
    c.x.body(0);
    c.x.act(0, 3, 1);
    c.x.act(1, 1, 1);
    c.due(c.x.count(5), 2);
    c.due(c.x.trace(0), 10);
    c.due(c.x.trace(1), 1);
    c.due(c.x.trace(2), Case.BAD);
  }

  @Says(promise = 32, value = "numbers of the bodies that ran in the latest act()")
  static void otherCallsLeaveTheTrace(Case c) {
    c.x.body(0);
    c.x.act(0, 1, 1);
    c.x.body(1);
    c.x.body(8);
    c.x.keep(0, 0);
    c.x.taken(0, 0);
    c.due(c.x.count(5), 2);
    c.due(c.x.trace(1), 1);
  }
}
