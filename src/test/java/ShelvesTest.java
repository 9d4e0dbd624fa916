/** Promises 33 to 39: what shelves hold, rows, knots taken, counts. */
final class ShelvesTest {
  private static final Check check = new Check();
  private static final long NONE = Long.MIN_VALUE;

  public static void main(String[] args) {
    keep();
    row();
    putAndElement();
    sorts();
    shift();
    shiftRefusals();
    taken();
    count();
    check.end();
  }

  // Promise 33
  private static void keep() {
    BlindSacks x = new BlindSacks();
    check.due("33 no such body", x.keep(0, 0), -1);
    check.due("33 nothing", x.keep(0, -1), 1);
    x.body(2);
    check.due("33 a KNOT", x.keep(5, 0), 1);
    check.due("33 it is there", x.taken(5, 0), 2);
    check.due("33 shelf 6", x.keep(6, 0), -1);
    check.due("33 shelf -1", x.keep(-1, -1), -1);
    check.due("33 body 1", x.keep(5, 1), -1);
    check.due("33 body -2", x.keep(5, -2), -1);
    check.due("33 it is there still", x.taken(5, 0), 2);
    check.due("33 nothing again", x.keep(5, -1), 1);
    check.due("33 it is gone", x.taken(5, 0), -11);
    x.row(5, 0, 1);
    x.keep(5, 0);
    check.due("33 in place of a ROW", x.put(5, 0, 1), -12);
    x.keep(5, -1);
    check.due("33 nothing in place of it", x.put(5, 0, 1), -11);
  }

  // Promise 34
  private static void row() {
    BlindSacks x = new BlindSacks();
    check.due("34 sort 5", x.row(0, 5, 1), -1);
    check.due("34 sort -1", x.row(0, -1, 1), -1);
    check.due("34 shelf 6", x.row(6, 0, 1), -1);
    check.due("34 shelf -1", x.row(-1, 0, 1), -1);
    check.due("34 n 61", x.row(0, 0, 61), -1);
    check.due("34 n -1", x.row(0, 0, -1), -14);
    check.due("34 n far below 0", x.row(0, 4, Integer.MIN_VALUE), -14);
    check.due("34 BAD ahead of -14", x.row(0, 5, -1), -1);
    check.due("34 none was laid", x.put(0, 0, 1), -11);
    check.due("34 of 0", x.row(0, 0, 0), 1);
    check.due("34 no place", x.put(0, 0, 1), -13);
    check.due("34 of 60", x.row(0, 3, 60), 1);
    check.due("34 the last is 0", x.element(0, 59), 0);
    x.put(0, 59, 7);
    check.due("34 the same anew", x.row(0, 3, 60), 1);
    check.due("34 all are 0 again", x.element(0, 59), 0);
    x.put(0, 2, 7);
    x.row(0, 0, -1);
    check.due("34 what is refused changes nothing", x.element(0, 2), 7);
    x.row(0, 0, 1);
    x.row(0, 0, 3);
    check.due("34 a longer one has none of the old", x.element(0, 2), 0);
  }

  // Promises 35 and 36
  private static void putAndElement() {
    BlindSacks x = new BlindSacks();
    check.due("35 nothing", x.put(0, 0, 1), -11);
    check.due("36 nothing", x.element(0, 0), NONE);
    x.body(0);
    x.keep(0, 0);
    check.due("35 a KNOT", x.put(0, 0, 1), -12);
    check.due("36 a KNOT", x.element(0, 0), NONE);
    x.row(0, 2, 3);
    check.due("35 place 3", x.put(0, 3, 1), -13);
    check.due("35 place -1", x.put(0, -1, 1), -13);
    check.due("36 place 3", x.element(0, 3), NONE);
    check.due("36 place -1", x.element(0, -1), NONE);
    check.due("35 shelf 6", x.put(6, 0, 1), -1);
    check.due("35 shelf -1", x.put(-1, 0, 1), -1);
    check.due("36 shelf 6", x.element(6, 0), NONE);
    check.due("35 put", x.put(0, 2, 5), 1);
    check.due("36 element", x.element(0, 2), 5);
    check.due("36 the one ahead", x.element(0, 1), 0);
    x.row(1, 2, 3);
    check.due("36 another shelf", x.element(1, 2), 0);
  }

  private static void sorts() {
    long[] values = {127, 128, -129, 65535, 1L << 31, 1L << 32, 256, Long.MIN_VALUE, Long.MAX_VALUE, -1};
    BlindSacks x = new BlindSacks();
    for (int sort = 0; sort <= 4; sort++) {
      x.row(sort, sort, 1);
      for (long v : values) {
        long[] due = {(byte) v, (short) v, (int) v, v, 1};
        check.due("35 put", x.put(sort, 0, v), 1);
        check.due("35 of sort " + sort + " " + v, x.element(sort, 0), due[sort]);
      }
      x.put(sort, 0, 0);
      check.due("35 0", x.element(sort, 0), 0);
    }
  }

  // Promise 37
  private static void shift() {
    BlindSacks x = new BlindSacks();
    Check.bytes(x, 0, 1, 2, 3, 4, 5);
    check.due("37 onward in the same", x.shift(0, 0, 0, 1, 4), 4);
    long[] due = {1, 1, 2, 3, 4};
    for (int i = 0; i < 5; i++) check.due("37 as they all were before", x.element(0, i), due[i]);
    check.due("37 backward in the same", x.shift(0, 1, 0, 0, 4), 4);
    long[] then = {1, 2, 3, 4, 4};
    for (int i = 0; i < 5; i++) check.due("37 as they all were", x.element(0, i), then[i]);
    Check.bytes(x, 1, 9, 9, 9);
    check.due("37 to another", x.shift(0, 3, 1, 1, 2), 2);
    check.due("37 left as it was", x.element(1, 0), 9);
    check.due("37 came", x.element(1, 1), 4);
    check.due("37 nothing at the end", x.shift(0, 5, 1, 3, 0), 0);
    x.row(2, 3, 1);
    x.row(3, 3, 1);
    x.put(2, 0, Long.MIN_VALUE);
    x.shift(2, 0, 3, 0, 1);
    check.due("37 longs", x.element(3, 0), Long.MIN_VALUE);
    x.row(2, 4, 1);
    x.row(3, 4, 1);
    x.put(2, 0, 8);
    x.shift(2, 0, 3, 0, 1);
    check.due("37 booleans", x.element(3, 0), 1);
  }

  private static void shiftRefusals() {
    BlindSacks x = new BlindSacks();
    Check.bytes(x, 0, 1, 2, 3);
    x.row(1, 1, 3);
    x.body(0);
    x.keep(2, 0);
    check.due("37 shelf 6", x.shift(6, 0, 0, 0, 1), -1);
    check.due("37 other 6", x.shift(0, 0, 6, 0, 1), -1);
    check.due("37 shelf -1", x.shift(-1, 0, 0, 0, 1), -1);
    check.due("37 other -1", x.shift(0, 0, -1, 0, 1), -1);
    check.due("37 nothing to", x.shift(0, 0, 3, 0, 1), -11);
    check.due("37 nothing from", x.shift(3, 0, 0, 0, 1), -11);
    check.due("37 -11 ahead of -12", x.shift(2, 0, 3, 0, 1), -11);
    check.due("37 unlike sorts", x.shift(0, 0, 1, 0, 1), -12);
    check.due("37 a KNOT from", x.shift(2, 0, 0, 0, 1), -12);
    check.due("37 a KNOT to", x.shift(0, 0, 2, 0, 1), -12);
    check.due("37 two KNOTS", x.shift(2, 0, 2, 0, 1), -12);
    check.due("37 -12 ahead of -13", x.shift(0, 9, 1, 0, 1), -12);
    int[][] places = {{-1, 0, 1}, {0, -1, 1}, {0, 0, 4}, {3, 0, 1}, {0, 3, 1}, {4, 0, 0}, {0, 4, 0}, {0, 0, -1},
      {1, 0, Integer.MAX_VALUE}, {Integer.MAX_VALUE, 0, 1}, {0, Integer.MAX_VALUE, 1}, {0, 0, Integer.MIN_VALUE}};
    for (int[] p : places) check.due("37 no such place " + p[0] + " " + p[1] + " " + p[2], x.shift(0, p[0], 0, p[1], p[2]), -13);
    for (int i = 0; i < 3; i++) check.due("37 as it was", x.element(0, i), i + 1);
  }

  // Promise 38
  private static void taken() {
    boolean[][] under = new boolean[8][8];
    int[] above = {-1, 0, 0, 2, 1, 3, 0, 4};
    for (int k = 0; k < 8; k++) {
      for (int a = k; a >= 0; a = above[a]) under[k][a] = true;
    }
    BlindSacks x = new BlindSacks();
    check.due("38 nothing", x.taken(0, 0), -11);
    for (int k = 0; k < 8; k++) x.body(7 - k);
    for (int k = 0; k < 8; k++) {
      x.keep(1, 7 - k);
      for (int as = 0; as < 8; as++) check.due("38 " + k + " taken for " + as, x.taken(1, as), under[k][as] ? k : -12);
    }
    x.row(1, 0, 3);
    check.due("38 a ROW", x.taken(1, 0), -12);
    check.due("38 KIND 8", x.taken(1, 8), -1);
    check.due("38 KIND -1", x.taken(0, -1), -1);
    check.due("38 shelf 6", x.taken(6, 0), -1);
    check.due("38 shelf -1", x.taken(-1, 0), -1);
  }

  // Promise 39
  private static void count() {
    BlindSacks x = new BlindSacks();
    x.sack(0);
    x.buyer(0, 0);
    x.buyer(0, 0);
    for (int k = 0; k < 3; k++) x.feed('p');
    for (int k = 0; k < 4; k++) x.mend(0, 0, k + 1);
    for (int k = 0; k < 5; k++) x.body(7);
    x.act(0, 3, 1);
    int[] due = {1, 2, 3, 4, 5, 14};
    for (int k = 0; k < 6; k++) check.due("39 count " + k, x.count(k), due[k]);
    check.due("39 count 6", x.count(6), -1);
    check.due("39 count -1", x.count(-1), -1);
    x.undo();
    check.due("39 one less may be UNDONE", x.count(3), 3);
    x.law();
    check.due("39 THE TAPE is empty", x.count(2), 0);
  }
}
