/** Counts answers that are not due, and ends the test with exit code 1 if there was one. */
final class Check {
  private static final int MOST_SHOWN = 40;
  private int wrong = 0;
  private int asked = 0;

  void due(String what, long got, long want) {
    asked++;
    if (got != want) {
      wrong++;
      if (wrong <= MOST_SHOWN) {
        System.out.println(what + " answered " + got + ", due is " + want);
      }
    }
  }

  void holds(String what, boolean is) {
    due(what, is ? 1 : 0, 1);
  }

  boolean hasWrong() {
    return wrong > 0;
  }

  void end() {
    System.out.println(asked + " answers, " + wrong + " not as due");
    if (wrong > 0 || asked == 0) {
      System.exit(1);
    }
  }

  /** Lays a ROW of bytes on a SHELF. */
  static void bytes(BlindSacks x, int shelf, int... values) {
    x.row(shelf, 0, values.length);
    for (int i = 0; i < values.length; i++) {
      x.put(shelf, i, values[i]);
    }
  }

  /** Feeds a text to THE TAPE and makes it THE LAW. */
  static int law(BlindSacks x, String text) {
    for (int i = 0; i < text.length(); i++) {
      x.feed(text.charAt(i));
    }
    return x.law();
  }
}
