import java.util.function.LongSupplier;

/** The boundaries that the document names for promises 10 to 15: beliefs by looks, and what is bought by them. */
final class BeliefsBoundsTest {
  private static final String LOOKS_END = "6 threes at most; it ends with what is no such, or lacks.";
  private static final String BS = "bs: 10 times the BUYER, and the SACK";
  private static final String PART = "part 0 above, 1 below the line; Long.MIN_VALUE: BAD, no ROW of bytes";

  public static void main(String[] args) throws Exception {
    Bounds.run(BeliefsBoundsTest.class, 10, 15);
  }

  /** GOOD 5 alone gives SOUND 1, GOOD 4 SMELL 2, GOOD 3 KNOT 3; ten SACKS, six BUYERS. */
  private static void market(Case c) {
    c.x.mend(5, 1, 1);
    c.x.mend(4, 2, 2);
    c.x.mend(3, 3, 3);
    c.market(10, 6);
  }

  private static void believed(Case c, int bs, int good, long above, long below) {
    c.fraction(c.x.belief(0, bs, good, 0), c.x.belief(0, bs, good, 1), above, below);
  }

  private static void worth(Case c, int bs, long above, long below) {
    c.fraction(c.x.worth(0, bs, 0), c.x.worth(0, bs, 1), above, below);
  }

  private static void right(Case c, int bs, long above, long below) {
    c.fraction(c.x.right(0, bs, 0), c.x.right(0, bs, 1), above, below);
  }

  /** LOOKS, of which one at SACK 0 by SOUND 1 counts, as often as told: GOOD 5 is then 9 to 1 each time. */
  private static void counted(Case c, int times, int... looks) {
    c.bytes(0, looks);
    long weight = 1;
    for (int k = 0; k < times; k++) weight *= 9;
    if (times == 0) {
      believed(c, 0, 5, 1, 6);
    } else {
      believed(c, 0, 5, weight, weight + 5);
    }
  }

  // Promise 10

  @Says(promise = 10, value = "A BUYER believes ahead that each GOOD is alike likely in a SACK that is not OPEN")
  static void withoutLooks(Case c) {
    market(c);
    c.bytes(0);
    for (int g = 0; g <= 5; g++) believed(c, 0, g, 1, 6);
  }

  @Says(promise = 10, value = "what is looked at (0 SOUND, 1 SMELL, 2 KNOT), what it seemed (0 .. 3)")
  static void eachSense(Case c) {
    market(c);
    c.bytes(0, 0, 0, 1);
    for (int g = 0; g <= 5; g++) believed(c, 0, g, g == 5 ? 9 : 1, 14);
    c.bytes(0, 0, 1, 2);
    for (int g = 0; g <= 5; g++) believed(c, 0, g, g == 4 ? 9 : 1, 14);
    c.bytes(0, 0, 2, 3);
    for (int g = 0; g <= 5; g++) believed(c, 0, g, g == 3 ? 9 : 1, 14);
  }

  @Says(promise = 10, value = "what it seemed (0 .. 3)")
  static void theLeastThatItSeemed(Case c) {
    market(c);
    for (int sense = 0; sense <= 2; sense++) {
      c.bytes(0, 0, sense, 0);
      for (int g = 0; g <= 5; g++) believed(c, 0, g, g == 5 - sense ? 1 : 9, 46);
    }
  }

  @Says(promise = 10, value = "what it seemed (0 .. 3)")
  static void theGreatestThatItSeemed(Case c) {
    market(c);
    c.bytes(0, 0, 0, 3);
    believed(c, 0, 5, 1, 6);
    c.x.mend(5, 1, 3);
    believed(c, 0, 5, 9, 14);
  }

  @Says(promise = 10, value = LOOKS_END)
  static void whatSeemedIsNone(Case c) {
    market(c);
    for (int none : new int[] {-1, 4, 127, -128}) {
      counted(c, 1, 0, 0, 1, 0, 0, none, 0, 0, 1);
      counted(c, 0, 0, 0, none, 0, 0, 1);
      counted(c, 1, 0, 0, 1, 9, 0, none, 0, 0, 1);
    }
  }

  @Says(promise = 10, value = LOOKS_END)
  static void whatIsLookedAtIsNone(Case c) {
    market(c);
    for (int none : new int[] {-1, 3, 127, -128}) {
      counted(c, 1, 0, 0, 1, 0, none, 1, 0, 0, 1);
      counted(c, 0, 0, none, 1, 0, 0, 1);
      counted(c, 1, 0, 0, 1, 9, none, 1, 0, 0, 1);
    }
  }

  @Says(promise = 10, value = LOOKS_END)
  static void theSackIsNone(Case c) {
    c.x.mend(5, 1, 1);
    c.market(3, 1);
    for (int none : new int[] {-1, 3, 9, 10, 127, -128}) {
      counted(c, 1, 0, 0, 1, none, 0, 1, 0, 0, 1);
      counted(c, 0, none, 0, 1, 0, 0, 1);
    }
    counted(c, 2, 0, 0, 1, 2, 0, 1, 0, 0, 1);
  }

  @Says(promise = 10, value = LOOKS_END)
  static void aThreeLacks(Case c) {
    market(c);
    counted(c, 0);
    counted(c, 0, 0);
    counted(c, 0, 0, 0);
    counted(c, 1, 0, 0, 1);
    counted(c, 1, 0, 0, 1, 0);
    counted(c, 1, 0, 0, 1, 0, 0);
    counted(c, 2, 0, 0, 1, 0, 0, 1);
  }

  @Says(promise = 10, value = LOOKS_END)
  static void sixThrees(Case c) {
    market(c);
    counted(c, 5, 0, 0, 1, 0, 0, 1, 0, 0, 1, 0, 0, 1, 0, 0, 1);
    counted(c, 6, 0, 0, 1, 0, 0, 1, 0, 0, 1, 0, 0, 1, 0, 0, 1, 0, 0, 1);
  }

  @Says(promise = 10, value = LOOKS_END)
  static void theSeventhThree(Case c) {
    market(c);
    counted(c, 6, 0, 0, 1, 0, 0, 1, 0, 0, 1, 0, 0, 1, 0, 0, 1, 0, 0, 1, 0, 0, 1);
    counted(c, 0, 9, 0, 1, 9, 0, 1, 9, 0, 1, 9, 0, 1, 9, 0, 1, 9, 0, 1, 0, 0, 1);
    counted(c, 1, 9, 0, 1, 9, 0, 1, 9, 0, 1, 9, 0, 1, 9, 0, 1, 0, 0, 1, 0, 0, 1);
  }

  @Says(promise = 10, value = LOOKS_END)
  static void aRowOfSixty(Case c) {
    market(c);
    c.x.row(0, 0, 60);
    for (int k = 0; k < 20; k++) c.x.put(0, 3 * k + 2, 1);
    believed(c, 0, 5, 531441, 531446);
  }

  @Says(promise = 10, value = "EAR by 12 if it is what the GOOD gives, else 12 less EAR by 36")
  static void theLeastEar(Case c) {
    market(c);
    c.x.mend(0, 8, 1);
    c.bytes(0, 0, 0, 1);
    // 1 by 12 to 11 by 36
    believed(c, 0, 5, 3, 58);
    believed(c, 0, 0, 11, 58);
  }

  @Says(promise = 10, value = "EAR by 12 if it is what the GOOD gives, else 12 less EAR by 36")
  static void theGreatestEar(Case c) {
    market(c);
    c.x.mend(0, 8, 11);
    c.bytes(0, 0, 0, 1);
    // 11 by 12 to 1 by 36
    believed(c, 0, 5, 33, 38);
    believed(c, 0, 0, 1, 38);
    c.bytes(0, 0, 0, 1, 0, 0, 1, 0, 0, 1, 0, 0, 1, 0, 0, 1, 0, 0, 1);
    believed(c, 0, 5, 1291467969L, 1291467974L);
    c.bytes(0, 0, 0, 0, 0, 0, 0, 0, 0, 0, 0, 0, 0, 0, 0, 0, 0, 0, 0);
    believed(c, 0, 5, 1, 6457339846L);
    believed(c, 0, 4, 1291467969L, 6457339846L);
  }

  @Says(promise = 10, value = "EAR by 12 if it is what the GOOD gives, else 12 less EAR by 36")
  static void anEarThatTellsNothing(Case c) {
    market(c);
    c.x.mend(0, 8, 3);
    c.bytes(0, 0, 0, 1, 0, 0, 1);
    for (int g = 0; g <= 5; g++) believed(c, 0, g, 1, 6);
  }

  @Says(promise = 10, value = "BELIEF of a GOOD in a SACK: a fraction in lowest terms")
  static void inLowestTerms(Case c) {
    market(c);
    int[][] fractions = {{4, 3, 13}, {5, 3, 10}, {6, 3, 8}, {7, 21, 46}, {8, 6, 11}, {9, 9, 14}, {10, 3, 4}, {2, 3, 28}};
    for (int[] f : fractions) {
      c.x.mend(0, 8, f[0]);
      c.bytes(0, 0, 0, 1);
      believed(c, 0, 5, f[1], f[2]);
    }
  }

  @Says(promise = 10, value = "an OPEN SACK he knows")
  static void anOpenSackIsKnown(Case c) {
    market(c);
    c.bytes(0, 2, 0, 1);
    c.x.open(2);
    for (int g = 0; g <= 5; g++) believed(c, 2, g, g == 2 ? 1 : 0, 1);
    believed(c, 1, 5, 1, 6);
    c.x.mend(2, 4, 4);
    for (int g = 0; g <= 5; g++) believed(c, 2, g, g == 4 ? 1 : 0, 1);
  }

  @Says(promise = 10, value = "A BUYER believes ahead that each GOOD is alike likely in a SACK that is not OPEN")
  static void aSoldSackIsNotKnown(Case c) {
    market(c);
    c.bytes(0);
    c.x.sell(2, 0);
    believed(c, 2, 2, 1, 6);
    believed(c, 12, 2, 1, 6);
  }

  @Says(promise = 10, value = BS)
  static void eachBuyerAndEachSack(Case c) {
    market(c);
    int[][] fractions = {{3, 13}, {3, 10}, {3, 8}, {21, 46}, {6, 11}, {9, 14}};
    for (int b = 0; b < 6; b++) c.x.mend(b, 8, 4 + b);
    for (int s = 0; s < 10; s++) {
      c.bytes(0, s, 0, 1);
      for (int b = 0; b < 6; b++) {
        believed(c, 10 * b + s, 5, fractions[b][0], fractions[b][1]);
        believed(c, 10 * b + (s + 1) % 10, 5, 1, 6);
      }
    }
  }

  /** What the five calls by LOOKS answer to a SHELF, and a BUYER and SACK. */
  private static void refused(Case c, int shelf, int bs, long due) {
    c.refused(Case.NONE, () -> c.x.belief(shelf, bs, 0, 0));
    c.refused(Case.NONE, () -> c.x.belief(shelf, bs, 0, 1));
    c.refused(due, () -> c.x.likeliest(shelf, bs, 0));
    c.refused(due, () -> c.x.likeliest(shelf, bs, 1));
    c.refused(Case.NONE, () -> c.x.worth(shelf, bs, 0));
    c.refused(Case.NONE, () -> c.x.worth(shelf, bs, 1));
    c.refused(due, () -> c.x.next(shelf, bs));
    c.refused(Case.NONE, () -> c.x.right(shelf, bs, 0));
    c.refused(Case.NONE, () -> c.x.right(shelf, bs, 1));
  }

  @Says(promise = 10, value = BS)
  static void sacksThatAreNone(Case c) {
    c.market(2, 6);
    c.bytes(0);
    for (int bs : new int[] {2, 5, 9, 12, 13, 19, 52, 53, 59}) refused(c, 0, bs, Case.BAD);
    believed(c, 51, 0, 1, 6);
  }

  @Says(promise = 10, value = BS)
  static void buyersThatAreNone(Case c) {
    c.market(10, 2);
    c.bytes(0);
    for (int bs : new int[] {20, 29, 60, 69, 99, 100, 110, 1000, Case.MOST}) refused(c, 0, bs, Case.BAD);
    believed(c, 19, 0, 1, 6);
  }

  @Says(promise = 10, value = BS)
  static void buyersAndSacksBelow0(Case c) {
    c.market(10, 6);
    c.bytes(0);
    for (int bs : new int[] {-1, -5, -9, -10, -11, -100, Case.LEAST}) refused(c, 0, bs, Case.BAD);
  }

  @Says(promise = 10, value = "SHELVES 0 .. 5")
  static void shelvesAtTheEndsAndBeyond(Case c) {
    c.market(1, 1);
    c.bytes(0);
    c.x.row(5, 0, 3);
    c.x.mend(0, 1, 1);
    c.x.put(5, 2, 1);
    c.fraction(c.x.belief(5, 0, 0, 0), c.x.belief(5, 0, 0, 1), 9, 14);
    for (int shelf : new int[] {-1, 6, Case.LEAST, Case.MOST}) refused(c, shelf, 0, Case.BAD);
  }

  @Says(promise = 10, value = "GOODS 0 .. 5")
  static void goodsThatAreNone(Case c) {
    c.market(1, 1);
    c.bytes(0);
    for (int good : new int[] {-1, 6, Case.LEAST, Case.MOST}) {
      c.refused(Case.NONE, () -> c.x.belief(0, 0, good, 0));
      c.refused(Case.NONE, () -> c.x.belief(0, 0, good, 1));
    }
  }

  @Says(promise = 10, value = PART)
  static void partsThatAreNone(Case c) {
    c.market(1, 1);
    c.bytes(0);
    for (int part : new int[] {-1, 2, Case.LEAST, Case.MOST}) {
      c.refused(Case.NONE, () -> c.x.belief(0, 0, 0, part));
      c.refused(Case.NONE, () -> c.x.worth(0, 0, part));
      c.refused(Case.NONE, () -> c.x.right(0, 0, part));
    }
  }

  @Says(promise = 10, value = PART)
  static void noRow(Case c) {
    c.market(1, 1);
    refused(c, 0, 0, Case.NOTHING);
    c.bytes(0);
    c.x.keep(0, -1);
    refused(c, 0, 0, Case.NOTHING);
  }

  @Says(promise = 10, value = PART)
  static void noRowOfBytes(Case c) {
    c.market(1, 1);
    for (int sort = 1; sort <= 4; sort++) {
      c.x.row(0, sort, 3);
      refused(c, 0, 0, Case.OTHER);
      c.x.row(0, sort, 0);
      refused(c, 0, 0, Case.OTHER);
    }
    c.knot(0, 0);
    refused(c, 0, 0, Case.OTHER);
  }

  // Promise 11

  @Says(promise = 11, value = "the GOOD most likely (of like ones the least)")
  static void ofLikeOnesTheLeast(Case c) {
    market(c);
    c.bytes(0);
    c.due(c.x.likeliest(0, 0, 0), 0);
    c.bytes(0, 0, 0, 1);
    c.due(c.x.likeliest(0, 0, 0), 5);
    c.bytes(0, 0, 0, 1, 0, 1, 2);
    c.due(c.x.likeliest(0, 0, 0), 4);
    c.bytes(0, 0, 0, 1, 0, 1, 2, 0, 2, 3);
    c.due(c.x.likeliest(0, 0, 0), 3);
    c.bytes(0, 0, 0, 1, 0, 1, 2, 0, 2, 3, 0, 1, 2);
    c.due(c.x.likeliest(0, 0, 0), 4);
  }

  @Says(promise = 11, value = "an OPEN SACK he knows")
  static void theLikeliestInAnOpenSack(Case c) {
    market(c);
    c.bytes(0, 2, 0, 1);
    c.due(c.x.likeliest(0, 2, 0), 5);
    c.x.open(2);
    c.due(c.x.likeliest(0, 2, 0), 2);
    c.x.open(5);
    c.due(c.x.likeliest(0, 5, 0), 5);
    c.x.open(6);
    c.due(c.x.likeliest(0, 56, 0), 0);
  }

  @Says(promise = 11, value = "whether it is more than ASKED")
  static void asMuchAsAskedIsNotMore(Case c) {
    c.market(2, 1);
    c.bytes(0);
    c.x.mend(0, 5, 25);
    c.due(c.x.likeliest(0, 0, 1), 0);
    c.x.mend(0, 5, 24);
    c.due(c.x.likeliest(0, 0, 1), 1);
    c.x.mend(0, 5, 26);
    c.due(c.x.likeliest(0, 0, 1), 0);
  }

  @Says(promise = 11, value = "whether it is more than ASKED")
  static void aSixthMoreThanAskedIsMore(Case c) {
    c.market(1, 1);
    c.bytes(0);
    c.x.mend(0, 5, 25);
    c.x.mend(0, 0, 1);
    c.due(c.x.likeliest(0, 0, 1), 1);
    c.x.mend(0, 0, 0);
    c.x.mend(5, 0, 49);
    c.due(c.x.likeliest(0, 0, 1), 0);
  }

  @Says(promise = 11, value = "whether it is more than ASKED")
  static void askedAtTheEnds(Case c) {
    c.market(1, 1);
    c.bytes(0);
    c.law("0");
    c.x.mend(0, 5, 0);
    c.due(c.x.likeliest(0, 0, 1), 0);
    c.law("1");
    c.due(c.x.likeliest(0, 0, 1), 1);
    c.x.mend(0, 5, 99);
    c.law("99");
    c.due(c.x.likeliest(0, 0, 1), 0);
    c.law("100");
    c.due(c.x.likeliest(0, 0, 1), 1);
  }

  @Says(promise = 11, value = "whether it is more than ASKED")
  static void eachSackByItsOwnAsked(Case c) {
    c.market(10, 6);
    c.bytes(0);
    for (int s = 0; s < 10; s++) c.x.mend(s, 5, 95 - 10 * s);
    c.law("a+b-2");
    for (int b = 0; b < 6; b++) {
      for (int s = 0; s < 10; s++) c.due(c.x.likeliest(0, 10 * b + s, 1), b > 2 ? 1 : 0);
    }
  }

  @Says(promise = 11, value = "BAD, -11, -12.")
  static void likeliestOfWhatIsNone(Case c) {
    c.market(1, 1);
    c.bytes(0);
    for (int what : new int[] {-1, 2, Case.LEAST, Case.MOST}) {
      c.refused(Case.BAD, () -> c.x.likeliest(0, 0, what));
      c.refused(Case.BAD, () -> c.x.likeliest(1, 0, what));
    }
    c.x.row(1, 1, 3);
    c.refused(Case.BAD, () -> c.x.likeliest(1, 0, 2));
    c.refused(Case.BAD, () -> c.x.likeliest(1, 1, 0));
    c.refused(Case.BAD, () -> c.x.likeliest(2, 1, 0));
  }

  // Promise 12

  @Says(promise = 12, value = "WORTH of a SACK to him: the mean of what GOODS are worth, by BELIEF: a fraction")
  static void worthOfNothingAndOfTheMost(Case c) {
    c.market(1, 1);
    c.bytes(0);
    c.law("0");
    worth(c, 0, 0, 1);
    c.law("999");
    worth(c, 0, 999, 1);
    c.law("g=5");
    worth(c, 0, 1, 6);
    c.law("g<3");
    worth(c, 0, 1, 2);
  }

  @Says(promise = 12, value = "WORTH of a SACK to him: the mean of what GOODS are worth, by BELIEF: a fraction")
  static void worthByALook(Case c) {
    market(c);
    c.bytes(0, 0, 0, 1);
    worth(c, 0, 275, 7);
    worth(c, 1, 25, 1);
    c.x.mend(0, 7, 5);
    worth(c, 0, 500, 7);
    worth(c, 10, 275, 7);
  }

  @Says(promise = 12, value = "an OPEN SACK he knows")
  static void worthOfAnOpenSack(Case c) {
    market(c);
    c.bytes(0, 4, 0, 1);
    c.x.open(4);
    worth(c, 4, 40, 1);
    c.x.open(0);
    worth(c, 0, 0, 1);
    c.x.mend(5, 7, 4);
    worth(c, 54, 80, 1);
  }

  @Says(promise = 12, value = "WORTH of a SACK to him")
  static void worthOfTheFarthest(Case c) {
    market(c);
    c.x.mend(9, 5, 77);
    c.bytes(0, 9, 0, 1);
    c.law("a+b");
    worth(c, 59, 82, 1);
    worth(c, 58, 15, 1);
    worth(c, 9, 77, 1);
  }

  // Promise 13

  @Says(promise = 13, value = "the greatest (of like ones the least number)")
  static void ofLikeSensesTheLeast(Case c) {
    market(c);
    c.bytes(0);
    c.due(c.x.next(0, 0), 0);
    c.x.mend(5, 1, 0);
    c.due(c.x.next(0, 0), 1);
    c.x.mend(4, 2, 0);
    c.due(c.x.next(0, 0), 2);
  }

  @Says(promise = 13, value = "the greatest (of like ones the least number)")
  static void theGreatestOfThree(Case c) {
    market(c);
    c.bytes(0);
    c.x.mend(1, 3, 1);
    c.due(c.x.next(0, 0), 2);
    c.x.mend(1, 2, 1);
    c.due(c.x.next(0, 0), 1);
    c.x.mend(1, 1, 2);
    c.due(c.x.next(0, 0), 0);
  }

  @Says(promise = 13, value = "3: none is better than no LOOK")
  static void noneIsBetter(Case c) {
    c.market(1, 1);
    c.bytes(0);
    c.due(c.x.next(0, 0), 3);
    c.x.mend(0, 8, 1);
    c.due(c.x.next(0, 0), 3);
    c.x.mend(0, 8, 11);
    c.due(c.x.next(0, 0), 3);
  }

  @Says(promise = 13, value = "3: none is better than no LOOK")
  static void anEarOf3IsNoBetter(Case c) {
    market(c);
    c.bytes(0);
    c.x.mend(0, 8, 3);
    c.due(c.x.next(0, 0), 3);
    c.x.mend(0, 8, 4);
    c.due(c.x.next(0, 0), 0);
    c.x.mend(0, 8, 2);
    c.due(c.x.next(0, 0), 0);
  }

  @Says(promise = 13, value = "3: none is better than no LOOK")
  static void noneIsBetterBehindALook(Case c) {
    market(c);
    c.bytes(0, 9, 0, 1);
    c.due(c.x.next(0, 59), 3);
    c.due(c.x.next(0, 58), 0);
    c.due(c.x.next(0, 9), 3);
  }

  @Says(promise = 13, value = "STATE: it is OPEN.")
  static void nextOfAnOpenSack(Case c) {
    market(c);
    c.bytes(0);
    c.x.open(9);
    for (int s = 0; s < 9; s++) c.due(c.x.next(0, 50 + s), 0);
    c.refused(Case.STATE, () -> c.x.next(0, 59));
    c.x.open(5);
    c.refused(Case.STATE, () -> c.x.next(0, 55));
    c.due(c.x.next(0, 56), 0);
    c.x.sell(6, 0);
    c.due(c.x.next(0, 56), 0);
  }

  @Says(promise = 13, value = "NEXT: which. BAD, -11, -12; STATE: it is OPEN.")
  static void nextIsRefusedByTheOrder(Case c) {
    c.market(1, 1);
    c.x.open(0);
    c.refused(Case.NOTHING, () -> c.x.next(0, 0));
    c.x.row(0, 1, 3);
    c.refused(Case.OTHER, () -> c.x.next(0, 0));
    c.refused(Case.BAD, () -> c.x.next(0, 1));
    c.refused(Case.BAD, () -> c.x.next(0, 10));
    c.refused(Case.BAD, () -> c.x.next(6, 0));
    c.x.row(0, 0, 3);
    c.refused(Case.STATE, () -> c.x.next(0, 0));
  }

  // Promise 14

  @Says(promise = 14, value = "How likely he is right then")
  static void rightWithoutALook(Case c) {
    c.market(1, 1);
    c.bytes(0);
    right(c, 0, 1, 6);
  }

  @Says(promise = 14, value = "How likely he is right then")
  static void rightBehindALook(Case c) {
    market(c);
    c.bytes(0, 9, 0, 1);
    right(c, 59, 9, 14);
    right(c, 58, 5, 18);
    right(c, 9, 9, 14);
    right(c, 0, 5, 18);
  }

  @Says(promise = 14, value = "How likely he is right then")
  static void rightByTheEarsAtTheEnds(Case c) {
    market(c);
    c.bytes(0);
    c.x.mend(5, 8, 11);
    c.x.mend(4, 8, 1);
    c.x.mend(3, 8, 3);
    right(c, 59, 17, 54);
    right(c, 49, 11, 54);
    right(c, 39, 1, 6);
    right(c, 29, 5, 18);
  }

  @Says(promise = 14, value = "the most likely GOOD of each of four answers, weighed")
  static void rightByFourAnswers(Case c) {
    market(c);
    c.bytes(0);
    c.x.mend(1, 3, 1);
    c.x.mend(2, 3, 2);
    right(c, 0, 1, 2);
    c.x.mend(0, 8, 11);
    right(c, 0, 11, 18);
  }

  @Says(promise = 14, value = "(an OPEN one: 1 by 1)")
  static void rightOfAnOpenSack(Case c) {
    market(c);
    c.bytes(0, 5, 0, 1);
    c.x.open(5);
    for (int b = 0; b < 6; b++) {
      for (int s = 0; s < 10; s++) right(c, 10 * b + s, s == 5 ? 1 : 5, s == 5 ? 1 : 18);
    }
    c.x.open(9);
    right(c, 59, 1, 1);
    right(c, 54, 5, 18);
  }

  @Says(promise = 14, value = PART)
  static void rightOfAnOpenSackWithoutARow(Case c) {
    c.market(1, 1);
    c.x.open(0);
    c.refused(Case.NONE, () -> c.x.right(0, 0, 0));
    c.x.row(0, 4, 3);
    c.refused(Case.NONE, () -> c.x.right(0, 0, 1));
    c.bytes(0);
    c.refused(Case.NONE, () -> c.x.right(0, 0, 2));
    right(c, 0, 1, 1);
  }

  // Promise 15

  private static void bought(Case c, int buyer, int much, int which) {
    c.due(c.x.buys(0, buyer, 0), much);
    c.due(c.x.buys(0, buyer, 1), which);
  }

  @Says(promise = 15, value = "BUYS: of SACKS neither SOLD nor OPEN")
  static void ofNoSack(Case c) {
    c.market(0, 1);
    c.bytes(0);
    bought(c, 0, 0, 0);
  }

  @Says(promise = 15, value = "ASKED together is no more than his PURSE")
  static void aPurseAsGreatAsAskedAndOneLess(Case c) {
    c.market(2, 1);
    c.bytes(0);
    c.x.mend(1, 5, 12);
    c.x.mend(0, 6, 22);
    bought(c, 0, 28, 3);
    c.x.mend(0, 6, 21);
    bought(c, 0, 15, 1);
    c.x.mend(0, 6, 10);
    bought(c, 0, 15, 1);
    c.x.mend(0, 6, 9);
    bought(c, 0, 0, 0);
  }

  @Says(promise = 15, value = "ASKED together is no more than his PURSE")
  static void anEmptyPurse(Case c) {
    c.market(3, 1);
    c.bytes(0);
    c.x.mend(0, 6, 0);
    bought(c, 0, 0, 0);
    c.x.mend(2, 5, 0);
    bought(c, 0, 25, 4);
    c.x.mend(0, 5, 1);
    bought(c, 0, 25, 4);
  }

  @Says(promise = 15, value = "ASKED together is no more than his PURSE")
  static void allTenAndAllButOne(Case c) {
    c.market(10, 6);
    c.bytes(0);
    bought(c, 5, 150, 1023);
    c.x.mend(5, 6, 99);
    bought(c, 5, 135, 511);
    c.law("999");
    for (int s = 0; s < 10; s++) c.x.mend(s, 5, 0);
    bought(c, 5, 9990, 1023);
  }

  @Says(promise = 15, value = "which (bits; of like ones fewest, then the least)")
  static void theLastSackAlone(Case c) {
    c.market(10, 6);
    c.bytes(0);
    for (int s = 0; s < 9; s++) c.x.mend(s, 5, 99);
    bought(c, 5, 15, 512);
    c.x.mend(9, 5, 99);
    c.x.mend(8, 5, 0);
    bought(c, 5, 25, 256);
  }

  @Says(promise = 15, value = "which (bits; of like ones fewest, then the least)")
  static void ofLikeOnesTheFewest(Case c) {
    c.market(3, 1);
    c.bytes(0);
    c.x.mend(2, 5, 20);
    c.law("a*2");
    c.x.mend(0, 6, 20);
    bought(c, 0, 20, 4);
    c.x.mend(0, 6, 30);
    bought(c, 0, 30, 5);
  }

  @Says(promise = 15, value = "which (bits; of like ones fewest, then the least)")
  static void whatGainsNothingIsNotBought(Case c) {
    c.market(3, 1);
    c.bytes(0);
    c.x.mend(0, 5, 25);
    c.x.mend(1, 5, 26);
    bought(c, 0, 15, 4);
    c.x.mend(2, 5, 25);
    bought(c, 0, 0, 0);
    c.x.mend(2, 5, 24);
    bought(c, 0, 1, 4);
  }

  @Says(promise = 15, value = "which (bits; of like ones fewest, then the least)")
  static void ofLikeFewTheLeast(Case c) {
    c.market(4, 1);
    c.bytes(0);
    c.x.mend(0, 6, 10);
    bought(c, 0, 15, 1);
    c.x.mend(0, 6, 20);
    bought(c, 0, 30, 3);
    c.x.sell(0, 0);
    c.x.mend(0, 6, 20);
    bought(c, 0, 30, 6);
  }

  @Says(promise = 15, value = "WORTH (cut) less ASKED together most")
  static void worthIsCutForEach(Case c) {
    c.market(2, 1);
    c.bytes(0);
    // 155 by 6 is 25 and 5 by 6 for each
    c.x.mend(5, 0, 55);
    bought(c, 0, 30, 3);
    c.x.mend(0, 5, 25);
    bought(c, 0, 15, 2);
  }

  @Says(promise = 15, value = "BUYS: of SACKS neither SOLD nor OPEN")
  static void neitherSoldNorOpen(Case c) {
    c.market(3, 2);
    c.bytes(0);
    c.x.sell(0, 1);
    bought(c, 0, 30, 6);
    c.x.open(1);
    bought(c, 0, 15, 4);
    c.x.open(0);
    bought(c, 0, 15, 4);
    c.x.open(2);
    bought(c, 0, 0, 0);
  }

  @Says(promise = 15, value = "BUYS: how much (what 0), which (1). BAD, -11, -12.")
  static void byLooks(Case c) {
    market(c);
    for (int s = 0; s < 10; s++) c.x.mend(s, 5, 30);
    c.bytes(0, 9, 0, 1);
    // 275 by 7 is 39 and 2 by 7
    bought(c, 5, 9, 512);
    c.x.mend(5, 8, 3);
    bought(c, 5, 0, 0);
  }

  @Says(promise = 15, value = "BUYS: how much (what 0), which (1). BAD, -11, -12.")
  static void buysIsRefused(Case c) {
    c.market(1, 2);
    c.bytes(0);
    LongSupplier[] bad = {() -> c.x.buys(-1, 0, 0), () -> c.x.buys(6, 0, 0), () -> c.x.buys(Case.MOST, 0, 0),
      () -> c.x.buys(Case.LEAST, 0, 0), () -> c.x.buys(0, 2, 0), () -> c.x.buys(0, -1, 0), () -> c.x.buys(0, 6, 0),
      () -> c.x.buys(0, Case.LEAST, 0), () -> c.x.buys(0, Case.MOST, 0), () -> c.x.buys(0, 0, -1), () -> c.x.buys(0, 0, 2),
      () -> c.x.buys(0, 0, Case.MOST), () -> c.x.buys(1, 2, 0), () -> c.x.buys(1, 0, 2)};
    for (LongSupplier call : bad) c.refused(Case.BAD, call);
    bought(c, 1, 15, 1);
  }

  @Says(promise = 15, value = "BUYS: how much (what 0), which (1). BAD, -11, -12.")
  static void buysByNoRowOfBytes(Case c) {
    c.market(1, 1);
    c.refused(Case.NOTHING, () -> c.x.buys(5, 0, 0));
    for (int sort = 1; sort <= 4; sort++) {
      c.x.row(5, sort, 3);
      c.refused(Case.OTHER, () -> c.x.buys(5, 0, 0));
    }
    c.knot(5, 7);
    c.refused(Case.OTHER, () -> c.x.buys(5, 0, 1));
    c.refused(Case.BAD, () -> c.x.buys(5, 1, 1));
    c.x.row(5, 0, 0);
    c.due(c.x.buys(5, 0, 0), 15);
  }
}
