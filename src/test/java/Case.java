import java.util.function.LongSupplier;

/** One boundary: a new object, and what it is due to answer. */
final class Case {
  static final int BAD = -1, NOT = -2, FULL = -3, STATE = -5, VOID = -2000000000;
  static final int NOTHING = -11, OTHER = -12, PLACE = -13, SIZE = -14;
  static final int LEAST = Integer.MIN_VALUE, MOST = Integer.MAX_VALUE;
  static final long NONE = Long.MIN_VALUE;

  final BlindSacks x = new BlindSacks();
  private final Check check;
  private final String name;
  private int asked = 0;

  Case(Check check, String name) {
    this.check = check;
    this.name = name;
  }

  void due(long got, long want) {
    asked++;
    check.due(name + ", answer " + asked, got, want);
  }

  /** A call that is answered by a refusal, and changes nothing that can be seen. */
  void refused(long want, LongSupplier call) {
    String before = Calls.seen(x);
    due(call.getAsLong(), want);
    check.holds(name + ", answer " + asked + " changed something", before.equals(Calls.seen(x)));
  }

  void bytes(int shelf, int... values) {
    Check.bytes(x, shelf, values);
  }

  int law(String text) {
    return Check.law(x, text);
  }

  /** So many SACKS of GOODS 0, 1 and so on, and so many BUYERS who want none, with 100 each. */
  void market(int sacks, int buyers) {
    for (int k = 0; k < sacks; k++) x.sack(k % 6);
    for (int k = 0; k < buyers; k++) x.buyer(100, 6);
  }

  void knot(int shelf, int kind) {
    x.keep(shelf, x.body(kind));
  }

  void fraction(long above, long below, long dueAbove, long dueBelow) {
    due(above, dueAbove);
    due(below, dueBelow);
  }
}
