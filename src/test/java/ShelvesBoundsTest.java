/** The boundaries that the document names for promises 33 to 39: shelves, rows, knots taken, counts. */
final class ShelvesBoundsTest {
  private static final String KEEP = "A SHELF holds nothing (body -1), or a KNOT: 1. BAD.";
  private static final String ROW = "A SHELF holds a ROW: 1. BAD (sort, n above 60); -14.";
  private static final String PUT = "Element i of a ROW becomes v: 1. BAD, -11, -12, -13.";
  private static final String ELEMENT = "Element i of a ROW; Long.MIN_VALUE: BAD, -11 to -13.";
  private static final String LOWEST = "what is put in keeps its lowest bits";
  private static final String BEFORE = "n elements of a ROW from i on come to another one (or the same) from j on, as they all were before: n";
  private static final String SHIFT = "BAD, -11 (either), -12 (no ROWS, or of unlike sorts), -13.";
  private static final String TAKEN = "What a SHELF holds, taken for a KNOT of KIND k (0 .. 7), or under it: its KIND. BAD, -11, -12.";
  private static final int[] NO_SHELVES = {-1, 6, Case.LEAST, Case.MOST};

  public static void main(String[] args) throws Exception {
    Bounds.run(ShelvesBoundsTest.class, 33, 39);
  }

  // Promise 33

  @Says(promise = 33, value = KEEP)
  static void shelvesAtTheEnds(Case c) {
    c.x.body(3);
    c.due(c.x.keep(0, 0), 1);
    c.due(c.x.keep(5, 0), 1);
    c.due(c.x.taken(0, 3), 3);
    c.due(c.x.taken(5, 3), 3);
    for (int shelf = 1; shelf <= 4; shelf++) c.due(c.x.taken(shelf, 3), Case.NOTHING);
  }

  @Says(promise = 33, value = KEEP)
  static void keepingOnShelvesThatAreNone(Case c) {
    c.x.body(3);
    for (int shelf : NO_SHELVES) {
      c.refused(Case.BAD, () -> c.x.keep(shelf, 0));
      c.refused(Case.BAD, () -> c.x.keep(shelf, -1));
    }
  }

  @Says(promise = 33, value = KEEP)
  static void bodiesThatAreNone(Case c) {
    c.refused(Case.BAD, () -> c.x.keep(0, 0));
    c.x.body(3);
    c.x.body(4);
    c.x.keep(0, 1);
    for (int none : new int[] {-2, 2, 49, 50, Case.LEAST, Case.MOST}) c.refused(Case.BAD, () -> c.x.keep(0, none));
    c.due(c.x.taken(0, 0), 4);
  }

  @Says(promise = 33, value = "BODIES 0 .. 49")
  static void theLastOfFiftyIsKept(Case c) {
    for (int k = 0; k < 50; k++) c.x.body(k % 8);
    c.due(c.x.keep(0, 49), 1);
    c.due(c.x.taken(0, 0), 1);
    c.refused(Case.BAD, () -> c.x.keep(0, 50));
  }

  @Says(promise = 33, value = KEEP)
  static void nothingInPlaceOfEach(Case c) {
    c.due(c.x.keep(0, -1), 1);
    c.knot(0, 1);
    c.due(c.x.keep(0, -1), 1);
    c.due(c.x.taken(0, 1), Case.NOTHING);
    c.bytes(0, 1, 2);
    c.due(c.x.keep(0, -1), 1);
    c.due(c.x.put(0, 0, 1), Case.NOTHING);
  }

  // Promise 34

  @Says(promise = 34, value = ROW)
  static void aRowOfNoneAndOfSixty(Case c) {
    c.due(c.x.row(0, 0, 0), 1);
    c.due(c.x.put(0, 0, 1), Case.PLACE);
    c.due(c.x.row(0, 0, 60), 1);
    c.due(c.x.put(0, 59, 1), 1);
    c.due(c.x.put(0, 60, 1), Case.PLACE);
  }

  @Says(promise = 34, value = ROW)
  static void aRowAboveSixty(Case c) {
    c.bytes(0, 1, 2);
    for (int n : new int[] {61, 100, Case.MOST}) c.refused(Case.BAD, () -> c.x.row(0, 0, n));
    c.due(c.x.element(0, 1), 2);
  }

  @Says(promise = 34, value = "-14 a size below 0")
  static void aRowBelow0(Case c) {
    c.bytes(0, 1, 2);
    for (int n : new int[] {-1, -60, Case.LEAST}) {
      for (int sort = 0; sort <= 4; sort++) {
        int of = sort;
        c.refused(Case.SIZE, () -> c.x.row(0, of, n));
        c.refused(Case.SIZE, () -> c.x.row(5, of, n));
      }
    }
    c.due(c.x.element(0, 1), 2);
  }

  @Says(promise = 34, value = ROW)
  static void sortsAtTheEndsAndBeyond(Case c) {
    c.due(c.x.row(0, 0, 1), 1);
    c.due(c.x.row(1, 4, 1), 1);
    for (int none : new int[] {-1, 5, Case.LEAST, Case.MOST}) c.refused(Case.BAD, () -> c.x.row(0, none, 1));
  }

  @Says(promise = 34, value = ROW)
  static void aBadRowBelow0IsBad(Case c) {
    for (int none : new int[] {-1, 5}) c.refused(Case.BAD, () -> c.x.row(0, none, -1));
    for (int shelf : NO_SHELVES) {
      c.refused(Case.BAD, () -> c.x.row(shelf, 0, -1));
      c.refused(Case.BAD, () -> c.x.row(shelf, 0, 1));
    }
  }

  @Says(promise = 34, value = "of 0 .. 60 elements, 0 at first (false)")
  static void allAre0AtFirst(Case c) {
    for (int sort = 0; sort <= 4; sort++) {
      c.x.row(0, sort, 60);
      for (int i = 0; i < 60; i += 59) c.due(c.x.element(0, i), 0);
      for (int i = 0; i < 60; i++) c.x.put(0, i, 1);
    }
    c.x.row(0, 4, 60);
    for (int i = 0; i < 60; i++) c.due(c.x.element(0, i), 0);
  }

  @Says(promise = 34, value = "of 0 .. 60 elements, 0 at first (false)")
  static void aShorterRowInPlaceOfALonger(Case c) {
    c.bytes(0, 1, 2, 3);
    c.x.row(0, 0, 2);
    c.due(c.x.element(0, 0), 0);
    c.due(c.x.element(0, 2), Case.NONE);
    c.x.row(0, 0, 3);
    for (int i = 0; i < 3; i++) c.due(c.x.element(0, i), 0);
  }

  @Says(promise = 34, value = "SHELVES 0 .. 5 each hold nothing (at first), a KNOT (a BODY), or a ROW")
  static void sixRowsAreApart(Case c) {
    for (int shelf = 0; shelf <= 5; shelf++) c.x.row(shelf, 3, 60);
    for (int shelf = 0; shelf <= 5; shelf++) c.x.put(shelf, 59, 100 + shelf);
    for (int shelf = 0; shelf <= 5; shelf++) c.due(c.x.element(shelf, 59), 100 + shelf);
  }

  // Promises 35 and 36

  @Says(promise = 35, value = "-13 a place that is not there")
  static void placesAtTheEndsAndBeyond(Case c) {
    c.bytes(0, 1, 2, 3);
    c.due(c.x.put(0, 0, 7), 1);
    c.due(c.x.put(0, 2, 9), 1);
    for (int none : new int[] {-1, 3, 59, 60, Case.LEAST, Case.MOST}) c.refused(Case.PLACE, () -> c.x.put(0, none, 1));
    c.due(c.x.element(0, 0), 7);
    c.due(c.x.element(0, 1), 2);
    c.due(c.x.element(0, 2), 9);
  }

  @Says(promise = 36, value = ELEMENT)
  static void elementsAtTheEndsAndBeyond(Case c) {
    c.bytes(5, 1, 2, 3);
    c.due(c.x.element(5, 0), 1);
    c.due(c.x.element(5, 2), 3);
    for (int none : new int[] {-1, 3, 59, 60, Case.LEAST, Case.MOST}) c.refused(Case.NONE, () -> c.x.element(5, none));
    c.x.row(5, 0, 0);
    c.due(c.x.element(5, 0), Case.NONE);
  }

  @Says(promise = 35, value = PUT)
  static void puttingIntoNothingAndIntoAKnot(Case c) {
    for (int i : new int[] {0, -1, 60}) c.refused(Case.NOTHING, () -> c.x.put(0, i, 1));
    c.knot(0, 0);
    for (int i : new int[] {0, -1, 60}) c.refused(Case.OTHER, () -> c.x.put(0, i, 1));
    for (int shelf : NO_SHELVES) c.refused(Case.BAD, () -> c.x.put(shelf, 0, 1));
    for (int shelf : NO_SHELVES) c.refused(Case.BAD, () -> c.x.put(shelf, -1, 1));
  }

  @Says(promise = 36, value = ELEMENT)
  static void elementsOfNothingAndOfAKnot(Case c) {
    c.refused(Case.NONE, () -> c.x.element(0, 0));
    c.knot(0, 0);
    c.refused(Case.NONE, () -> c.x.element(0, 0));
    for (int shelf : NO_SHELVES) c.refused(Case.NONE, () -> c.x.element(shelf, 0));
  }

  /** What comes of each number that is put into a ROW of a sort. */
  private static void kept(Case c, int sort, long[] put, long[] kept) {
    c.x.row(0, sort, 1);
    for (int k = 0; k < put.length; k++) {
      c.due(c.x.put(0, 0, put[k]), 1);
      c.due(c.x.element(0, 0), kept[k]);
    }
  }

  @Says(promise = 35, value = LOWEST)
  static void bytesKeepEightBits(Case c) {
    kept(c, 0, new long[] {127, 128, -128, -129, 255, 256, -256, Long.MAX_VALUE, Long.MIN_VALUE, 1L << 32, 0},
        new long[] {127, -128, -128, 127, -1, 0, 0, -1, 0, 0, 0});
  }

  @Says(promise = 35, value = LOWEST)
  static void shortsKeepSixteenBits(Case c) {
    kept(c, 1, new long[] {32767, 32768, -32768, -32769, 65535, 65536, Long.MAX_VALUE, Long.MIN_VALUE, 1L << 32, 128},
        new long[] {32767, -32768, -32768, 32767, -1, 0, -1, 0, 0, 128});
  }

  @Says(promise = 35, value = LOWEST)
  static void intsKeepThirtyTwoBits(Case c) {
    kept(c, 2, new long[] {Case.MOST, 1L << 31, Case.LEAST, -(1L << 31) - 1, (1L << 32) - 1, 1L << 32, Long.MAX_VALUE, Long.MIN_VALUE},
        new long[] {Case.MOST, Case.LEAST, Case.LEAST, Case.MOST, -1, 0, -1, 0});
  }

  @Says(promise = 35, value = LOWEST)
  static void longsKeepAll(Case c) {
    kept(c, 3, new long[] {Long.MAX_VALUE, Long.MIN_VALUE, 1L << 32, -1, 0}, new long[] {Long.MAX_VALUE, Long.MIN_VALUE, 1L << 32, -1, 0});
  }

  @Says(promise = 35, value = "(a boolean: whether it is not 0; 1 or 0)")
  static void booleansKeepWhetherItIsNot0(Case c) {
    kept(c, 4, new long[] {1, 0, 2, -1, 256, 1L << 32, Long.MIN_VALUE, Long.MAX_VALUE, 0}, new long[] {1, 0, 1, 1, 1, 1, 1, 1, 0});
  }

  // Promise 37

  private static void elements(Case c, int shelf, long... due) {
    for (int i = 0; i < due.length; i++) c.due(c.x.element(shelf, i), due[i]);
    c.due(c.x.element(shelf, due.length), Case.NONE);
  }

  @Says(promise = 37, value = BEFORE)
  static void onwardAndBackwardInTheSame(Case c) {
    c.bytes(0, 1, 2, 3, 4, 5);
    c.due(c.x.shift(0, 0, 0, 1, 4), 4);
    elements(c, 0, 1, 1, 2, 3, 4);
    c.due(c.x.shift(0, 1, 0, 0, 4), 4);
    elements(c, 0, 1, 2, 3, 4, 4);
    c.due(c.x.shift(0, 0, 0, 0, 5), 5);
    elements(c, 0, 1, 2, 3, 4, 4);
  }

  @Says(promise = 37, value = BEFORE)
  static void allSixtyToAnother(Case c) {
    c.x.row(0, 3, 60);
    c.x.row(5, 3, 60);
    for (int i = 0; i < 60; i++) c.x.put(0, i, (1L << 40) + i);
    c.due(c.x.shift(0, 0, 5, 0, 60), 60);
    for (int i = 0; i < 60; i++) c.due(c.x.element(5, i), (1L << 40) + i);
    c.refused(Case.PLACE, () -> c.x.shift(0, 0, 5, 0, 61));
    c.refused(Case.PLACE, () -> c.x.shift(0, 1, 5, 0, 60));
    c.refused(Case.PLACE, () -> c.x.shift(0, 0, 5, 1, 60));
  }

  @Says(promise = 37, value = BEFORE)
  static void noneOfThem(Case c) {
    c.bytes(0, 1, 2, 3);
    c.bytes(1, 4, 5);
    c.refused(0, () -> c.x.shift(0, 0, 1, 0, 0));
    c.refused(0, () -> c.x.shift(0, 3, 1, 2, 0));
    c.refused(Case.PLACE, () -> c.x.shift(0, 4, 1, 0, 0));
    c.refused(Case.PLACE, () -> c.x.shift(0, 0, 1, 3, 0));
    c.refused(Case.PLACE, () -> c.x.shift(0, -1, 1, 0, 0));
    c.refused(Case.PLACE, () -> c.x.shift(0, 0, 1, -1, 0));
    c.x.row(1, 0, 0);
    c.refused(0, () -> c.x.shift(1, 0, 1, 0, 0));
    c.refused(0, () -> c.x.shift(1, 0, 0, 3, 0));
  }

  @Says(promise = 37, value = BEFORE)
  static void theLastOneToTheLast(Case c) {
    c.bytes(0, 1, 2, 3);
    c.bytes(1, 4, 5);
    c.due(c.x.shift(0, 2, 1, 1, 1), 1);
    elements(c, 0, 1, 2, 3);
    elements(c, 1, 4, 3);
    c.due(c.x.shift(1, 0, 0, 1, 2), 2);
    elements(c, 0, 1, 4, 3);
    elements(c, 1, 4, 3);
  }

  @Says(promise = 37, value = BEFORE)
  static void eachSort(Case c) {
    long[] kept = {-128, -32768, Case.LEAST, Long.MIN_VALUE, 1};
    for (int sort = 0; sort <= 4; sort++) {
      c.x.row(0, sort, 2);
      c.x.row(1, sort, 1);
      c.x.put(0, 1, kept[sort]);
      c.due(c.x.shift(0, 1, 1, 0, 1), 1);
      c.due(c.x.element(1, 0), kept[sort]);
    }
  }

  @Says(promise = 37, value = SHIFT)
  static void placesThatAreNone(Case c) {
    c.bytes(0, 1, 2, 3);
    c.bytes(1, 4, 5);
    int[][] none = {{-1, 0, 1}, {0, -1, 1}, {3, 0, 1}, {0, 2, 1}, {2, 0, 2}, {0, 1, 2}, {0, 0, 3}, {0, 0, -1}, {1, 1, -1},
      {Case.MOST, 0, 1}, {0, Case.MOST, 1}, {0, 0, Case.MOST}, {Case.LEAST, 0, 1}, {0, Case.LEAST, 1}, {0, 0, Case.LEAST},
      {1, 1, Case.MOST}, {Case.MOST, Case.MOST, Case.MOST}, {Case.LEAST, Case.LEAST, Case.LEAST}, {2, 0, Case.MOST - 1}};
    for (int[] n : none) c.refused(Case.PLACE, () -> c.x.shift(0, n[0], 1, n[1], n[2]));
  }

  @Says(promise = 37, value = SHIFT)
  static void shelvesThatAreNone(Case c) {
    c.bytes(0, 1, 2, 3);
    for (int shelf : NO_SHELVES) {
      c.refused(Case.BAD, () -> c.x.shift(shelf, 0, 0, 0, 1));
      c.refused(Case.BAD, () -> c.x.shift(0, 0, shelf, 0, 1));
      c.refused(Case.BAD, () -> c.x.shift(shelf, 0, 1, 0, 1));
      c.refused(Case.BAD, () -> c.x.shift(1, 0, shelf, 0, 1));
    }
  }

  @Says(promise = 37, value = SHIFT)
  static void nothingOnEither(Case c) {
    c.bytes(0, 1, 2, 3);
    c.knot(2, 0);
    c.refused(Case.NOTHING, () -> c.x.shift(0, 0, 1, 0, 1));
    c.refused(Case.NOTHING, () -> c.x.shift(1, 0, 0, 0, 1));
    c.refused(Case.NOTHING, () -> c.x.shift(1, 0, 1, 0, 1));
    c.refused(Case.NOTHING, () -> c.x.shift(2, 0, 1, 0, 1));
    c.refused(Case.NOTHING, () -> c.x.shift(1, 0, 2, 0, 1));
    c.refused(Case.NOTHING, () -> c.x.shift(0, 9, 1, 9, -1));
  }

  @Says(promise = 37, value = SHIFT)
  static void noRowsAndUnlikeSorts(Case c) {
    c.knot(5, 0);
    for (int sort = 0; sort <= 4; sort++) c.x.row(sort, sort, 2);
    for (int sort = 0; sort <= 4; sort++) {
      for (int other = 0; other <= 5; other++) {
        int from = sort, to = other;
        if (from == to) continue;
        c.due(c.x.shift(from, 0, to, 0, 1), Case.OTHER);
        c.due(c.x.shift(to, 0, from, 0, 1), Case.OTHER);
      }
    }
    c.refused(Case.OTHER, () -> c.x.shift(5, 0, 5, 0, 1));
    c.refused(Case.OTHER, () -> c.x.shift(0, 9, 1, 0, 1));
    c.refused(Case.OTHER, () -> c.x.shift(5, -1, 0, 0, -1));
  }

  // Promise 38

  @Says(promise = 38, value = TAKEN)
  static void kindsAtTheEndsAndBeyond(Case c) {
    c.knot(0, 7);
    c.knot(5, 0);
    c.due(c.x.taken(0, 0), 7);
    c.due(c.x.taken(0, 7), 7);
    c.due(c.x.taken(5, 0), 0);
    c.due(c.x.taken(5, 7), Case.OTHER);
    for (int none : new int[] {-1, 8, Case.LEAST, Case.MOST}) {
      c.refused(Case.BAD, () -> c.x.taken(0, none));
      c.refused(Case.BAD, () -> c.x.taken(1, none));
    }
  }

  @Says(promise = 38, value = TAKEN)
  static void eachKindForEach(Case c) {
    // by KINDS, those that it is, or is under
    int[][] all = {{0}, {0, 1}, {0, 2}, {0, 2, 3}, {0, 1, 4}, {0, 2, 3, 5}, {0, 6}, {0, 1, 4, 7}};
    for (int kind = 0; kind <= 7; kind++) {
      c.knot(0, kind);
      for (int as = 0; as <= 7; as++) {
        boolean is = false;
        for (int one : all[kind]) is |= one == as;
        c.due(c.x.taken(0, as), is ? kind : Case.OTHER);
      }
    }
  }

  @Says(promise = 38, value = TAKEN)
  static void nothingAndRowsAreTaken(Case c) {
    for (int shelf = 0; shelf <= 5; shelf++) c.due(c.x.taken(shelf, 7), Case.NOTHING);
    for (int sort = 0; sort <= 4; sort++) {
      c.x.row(0, sort, 0);
      c.refused(Case.OTHER, () -> c.x.taken(0, 0));
    }
    for (int shelf : NO_SHELVES) c.refused(Case.BAD, () -> c.x.taken(shelf, 0));
  }

  // Promise 39

  @Says(promise = 39, value = "How many: 0 SACKS, 1 BUYERS, 2 bytes on THE TAPE, 3 changes that may be UNDONE, 4 BODIES")
  static void allAtTheirMost(Case c) {
    c.market(10, 6);
    for (int k = 0; k < 120; k++) c.x.feed('p');
    for (int k = 0; k < 41; k++) c.x.mend(5, 0, k);
    for (int k = 0; k < 50; k++) c.x.body(7);
    c.x.act(49, 3, 1);
    int[] due = {10, 6, 120, 40, 50, 14};
    for (int what = 0; what <= 5; what++) c.due(c.x.count(what), due[what]);
    c.x.sack(0);
    c.x.buyer(0, 0);
    c.x.feed('p');
    c.x.body(0);
    for (int what = 0; what <= 5; what++) c.due(c.x.count(what), due[what]);
  }

  @Says(promise = 39, value = "3 changes that may be UNDONE")
  static void changesThatMayBeUndone(Case c) {
    c.due(c.x.count(3), 0);
    c.x.mend(0, 0, 1);
    c.x.mend(0, 0, 2);
    c.due(c.x.count(3), 2);
    c.x.undo();
    c.due(c.x.count(3), 1);
    c.x.undo();
    c.x.undo();
    c.due(c.x.count(3), 0);
    c.x.redo();
    c.due(c.x.count(3), 1);
  }

  @Says(promise = 39, value = "5 bodies that ran in the latest act() (all, kept or not). BAD.")
  static void whatIsNotCounted(Case c) {
    for (int none : new int[] {-1, 6, Case.LEAST, Case.MOST}) c.refused(Case.BAD, () -> c.x.count(none));
  }
}
