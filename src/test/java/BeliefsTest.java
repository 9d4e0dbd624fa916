/** Promises 10 to 15: what a buyer believes, what a sack is worth to him, what to look at, what to buy. */
final class BeliefsTest {
  private static final Check check = new Check();
  private static final long NONE = Long.MIN_VALUE;

  public static void main(String[] args) {
    belief();
    looksEnd();
    likeliest();
    worth();
    nextAndRight();
    farOnes();
    refusals();
    buys();
    buysTies();
    check.end();
  }

  /** Two SACKS, a BUYER with EAR 9; GOOD g gives SOUND g % 4, SMELL g / 3, KNOT 0. */
  private static BlindSacks market() {
    BlindSacks x = new BlindSacks();
    for (int g = 0; g < 6; g++) {
      x.mend(g, 1, g % 4);
      x.mend(g, 2, g / 3);
    }
    x.sack(4);
    x.sack(5);
    x.buyer(100, 6);
    return x;
  }

  private static void fraction(String what, long above, long below, long dueAbove, long dueBelow) {
    check.due(what + " above", above, dueAbove);
    check.due(what + " below", below, dueBelow);
  }

  private static void believed(BlindSacks x, int bs, int good, long above, long below) {
    fraction("10 belief of " + good + " by " + bs, x.belief(0, bs, good, 0), x.belief(0, bs, good, 1), above, below);
  }

  // Promise 10
  private static void belief() {
    BlindSacks x = market();
    Check.bytes(x, 0);
    for (int g = 0; g < 6; g++) believed(x, 0, g, 1, 6);
    // SOUND 1: GOODS 1, 5 by 9 of 12, the others by 3 of 36: 27 to 3 in parts of 36
    Check.bytes(x, 0, 0, 0, 1);
    believed(x, 0, 1, 9, 22);
    believed(x, 0, 5, 9, 22);
    believed(x, 0, 0, 1, 22);
    believed(x, 1, 1, 1, 6);
    // and SMELL 1: GOODS 3, 4, 5: weights 9, 81, 9, 81, 81, 729
    Check.bytes(x, 0, 0, 0, 1, 0, 1, 1);
    believed(x, 0, 5, 81, 110);
    believed(x, 0, 1, 9, 110);
    believed(x, 0, 3, 9, 110);
    believed(x, 0, 0, 1, 110);
    // the more, the more: SOUND 1 twice: 729, 9
    Check.bytes(x, 0, 0, 0, 1, 0, 0, 1);
    believed(x, 0, 1, 81, 166);
    // another EAR: 3 of 12 for each: nothing is learnt
    x.mend(0, 8, 3);
    believed(x, 0, 1, 1, 6);
    // EAR 1: what it seemed is the less likely: 3 to 11
    x.mend(0, 8, 1);
    Check.bytes(x, 0, 0, 0, 1);
    believed(x, 0, 1, 3, 50);
    believed(x, 0, 0, 11, 50);
    // six LOOKS by EAR 11: 33 to the 6th to 1
    x.mend(0, 8, 11);
    Check.bytes(x, 0, 1, 0, 3, 1, 0, 3, 1, 0, 3, 1, 0, 3, 1, 0, 3, 1, 0, 3, 1, 0, 3);
    believed(x, 1, 3, 1291467969L, 1291467974L);
    believed(x, 1, 0, 1, 1291467974L);
    x.open(0);
    believed(x, 0, 4, 1, 1);
    believed(x, 0, 3, 0, 1);
    x.mend(0, 4, 3);
    believed(x, 0, 3, 1, 1);
    // SOLD alone is not known
    x.sell(1, 0);
    Check.bytes(x, 0);
    believed(x, 1, 0, 1, 6);
  }

  private static void looksEnd() {
    BlindSacks x = market();
    int[][] ends = {{2, 0, 1}, {-1, 0, 1}, {0, 3, 1}, {0, -1, 1}, {0, 0, 4}, {0, 0, -1}};
    for (int[] end : ends) {
      Check.bytes(x, 0, 0, 0, 1, end[0], end[1], end[2], 0, 1, 1);
      believed(x, 0, 1, 9, 22);
    }
    Check.bytes(x, 0, 0, 0, 1, 0, 1);
    believed(x, 0, 1, 9, 22);
    Check.bytes(x, 0, 0, 0);
    believed(x, 0, 1, 1, 6);
    // LOOKS at another SACK count among the six, but tell nothing of this one
    Check.bytes(x, 0, 1, 0, 3, 1, 0, 3, 1, 0, 3, 1, 0, 3, 1, 0, 3, 0, 0, 1, 0, 0, 1);
    believed(x, 0, 1, 9, 22);
  }

  // Promise 11
  private static void likeliest() {
    BlindSacks x = market();
    Check.bytes(x, 0, 0, 0, 1);
    check.due("11 of like ones the least", x.likeliest(0, 0, 0), 1);
    check.due("11 of all alike the least", x.likeliest(0, 1, 0), 0);
    Check.bytes(x, 0, 0, 0, 1, 0, 1, 1);
    check.due("11 the most likely", x.likeliest(0, 0, 0), 5);
    x.mend(0, 5, 45);
    // WORTH: (0 + 10*81 + 20*9 + 30*81 + 40*81 + 50*729) by 990 = 43110 by 990, that is 43.5..
    check.due("11 WORTH less than ASKED", x.likeliest(0, 0, 1), 0);
    x.mend(0, 5, 43);
    check.due("11 WORTH more than ASKED", x.likeliest(0, 0, 1), 1);
    x.mend(1, 5, 25);
    check.due("11 as much is not more", x.likeliest(0, 1, 1), 0);
    x.mend(1, 5, 24);
    check.due("11 more", x.likeliest(0, 1, 1), 1);
    x.open(0);
    check.due("11 an OPEN one is known", x.likeliest(0, 0, 0), 4);
    check.due("11 its worth, 40, is less than 43", x.likeliest(0, 0, 1), 0);
  }

  // Promise 12
  private static void worth() {
    BlindSacks x = market();
    Check.bytes(x, 0, 0, 0, 1);
    fraction("12 without LOOKS", x.worth(0, 1, 0), x.worth(0, 1, 1), 25, 1);
    // (0 + 10*9 + 20 + 30 + 40 + 50*9) by 22 = 630 by 22
    fraction("12 by a LOOK", x.worth(0, 0, 0), x.worth(0, 0, 1), 315, 11);
    x.mend(0, 7, 1);
    fraction("12 what he wants", x.worth(0, 0, 0), x.worth(0, 0, 1), 360, 11);
    Check.law(x, "a*g%7");
    // 10*g % 7: 0, 3, 6, 2, 5, 1: by weights 1, 9, 1, 1, 1, 9: 27 + 6 + 2 + 5 + 9 = 49 by 22
    fraction("12 by THE LAW", x.worth(0, 0, 0), x.worth(0, 0, 1), 49, 22);
    Check.law(x, "0");
    fraction("12 nothing", x.worth(0, 0, 0), x.worth(0, 0, 1), 0, 1);
    Check.law(x, "p");
    x.open(0);
    fraction("12 an OPEN one", x.worth(0, 0, 0), x.worth(0, 0, 1), 40, 1);
  }

  // Promises 13 and 14
  private static void nextAndRight() {
    BlindSacks x = market();
    Check.bytes(x, 0);
    // SOUND: 27 by each of four answers: 108 by 216; SMELL: 27, 27, 3, 3; KNOT: 27, 3, 3, 3: as good as none
    check.due("13 SOUND tells most", x.next(0, 0), 0);
    fraction("14 right by SOUND", x.right(0, 0, 0), x.right(0, 0, 1), 1, 2);
    // by SOUND 1 the weights are 3, 27, 3, 3, 3, 27; SOUND once more is as good as none, 972 by 2376, SMELL 1620
    Check.bytes(x, 0, 0, 0, 1);
    check.due("13 SMELL behind SOUND", x.next(0, 0), 1);
    fraction("14 right by SMELL behind SOUND", x.right(0, 0, 0), x.right(0, 0, 1), 15, 22);
    Check.bytes(x, 0);
    for (int g = 0; g < 6; g++) x.mend(g, 1, 0);
    check.due("13 SMELL tells most", x.next(0, 0), 1);
    fraction("14 right by SMELL", x.right(0, 0, 0), x.right(0, 0, 1), 5, 18);
    for (int g = 0; g < 6; g++) x.mend(g, 3, x.of(g, 2));
    check.due("13 SMELL ahead of a KNOT as good", x.next(0, 0), 1);
    for (int g = 0; g < 6; g++) x.mend(g, 2, 0);
    check.due("13 KNOT tells most", x.next(0, 0), 2);
    fraction("14 right by KNOT", x.right(0, 0, 0), x.right(0, 0, 1), 5, 18);
    // EAR 1: behind each answer a GOOD that does not give it has 11 of 36
    x.mend(0, 8, 1);
    fraction("14 right by a bad EAR", x.right(0, 0, 0), x.right(0, 0, 1), 11, 54);
    for (int g = 0; g < 6; g++) x.mend(g, 3, 0);
    check.due("13 none is better", x.next(0, 0), 3);
    fraction("14 right without a LOOK", x.right(0, 0, 0), x.right(0, 0, 1), 1, 6);
    x.sell(0, 0);
    check.due("13 a SOLD one may be looked at", x.next(0, 0), 3);
    x.open(0);
    check.due("13 an OPEN one", x.next(0, 0), -5);
    fraction("14 an OPEN one", x.right(0, 0, 0), x.right(0, 0, 1), 1, 1);
    x.keep(0, -1);
    check.due("13 -11 ahead of STATE", x.next(0, 0), -11);
    check.due("14 an OPEN one without a ROW", x.right(0, 0, 0), NONE);
  }

  /** Ten SACKS, six BUYERS: the last BUYER hears well, the others nothing (3 of 12 for each). */
  private static void farOnes() {
    BlindSacks x = new BlindSacks();
    x.mend(0, 1, 1);
    for (int k = 0; k < 10; k++) x.sack(k % 6);
    for (int k = 0; k < 6; k++) {
      x.buyer(0, k == 5 ? 1 : 6);
      x.mend(k, 8, k == 5 ? 11 : 3);
    }
    x.mend(9, 5, 13);
    Check.bytes(x, 0, 0, 0, 1, 9, 0, 1);
    believed(x, 50, 0, 33, 38);
    believed(x, 59, 0, 33, 38);
    believed(x, 59, 5, 1, 38);
    believed(x, 40, 0, 1, 6);
    believed(x, 49, 0, 1, 6);
    believed(x, 58, 0, 1, 6);
    check.due("11 of BUYER 5", x.likeliest(0, 50, 0), 0);
    // (0*33 + 20 + 20 + 30 + 40 + 50) by 38
    fraction("12 of BUYER 5", x.worth(0, 50, 0), x.worth(0, 50, 1), 80, 19);
    fraction("12 of BUYER 5, SACK 9", x.worth(0, 59, 0), x.worth(0, 59, 1), 80, 19);
    fraction("12 of BUYER 4", x.worth(0, 49, 0), x.worth(0, 49, 1), 25, 1);
    check.due("11 of BUYER 5, ASKED 10", x.likeliest(0, 50, 1), 0);
    check.due("11 of BUYER 4, ASKED 13", x.likeliest(0, 49, 1), 1);
    // SOUND by EAR 11: GOOD 0 behind 1, another behind 0: 33 + 33 + 1 + 1 by 216
    check.due("13 of BUYER 5, SACK 1", x.next(0, 51), 0);
    fraction("14 of BUYER 5, SACK 1", x.right(0, 51, 0), x.right(0, 51, 1), 17, 54);
    check.due("13 of BUYER 4, SACK 1", x.next(0, 41), 3);
    fraction("14 of BUYER 4, SACK 1", x.right(0, 41, 0), x.right(0, 41, 1), 1, 6);
    check.due("13 of BUYER 4, SACK 8", x.next(0, 48), 3);
    check.due("13 of BUYER 5, SACK 0", x.next(0, 50), 3);
    fraction("14 of BUYER 5, SACK 0", x.right(0, 50, 0), x.right(0, 50, 1), 33, 38);
    Check.law(x, "a");
    fraction("12 by ASKED of SACK 9", x.worth(0, 59, 0), x.worth(0, 59, 1), 13, 1);
    x.open(9);
    check.due("13 SACK 9 is OPEN", x.next(0, 59), -5);
    check.due("13 SACK 5 is not", x.next(0, 55), 0);
    fraction("14 SACK 9 is OPEN", x.right(0, 59, 0), x.right(0, 59, 1), 1, 1);
    fraction("14 SACK 8 is not", x.right(0, 58, 0), x.right(0, 58, 1), 17, 54);
  }

  /** What the five calls by LOOKS answer to a shelf and a BUYER and SACK. */
  private static void refused(BlindSacks x, int shelf, int bs, long due) {
    String at = " of shelf " + shelf + ", bs " + bs;
    check.due("10" + at, x.belief(shelf, bs, 0, 0), NONE);
    check.due("11" + at, x.likeliest(shelf, bs, 0), due);
    check.due("12" + at, x.worth(shelf, bs, 0), NONE);
    check.due("13" + at, x.next(shelf, bs), due);
    check.due("14" + at, x.right(shelf, bs, 0), NONE);
  }

  private static void refusals() {
    BlindSacks x = market();
    refused(x, 0, 0, -11);
    for (int sort = 1; sort <= 4; sort++) {
      x.row(0, sort, 6);
      refused(x, 0, 0, -12);
    }
    x.body(3);
    x.keep(0, 0);
    refused(x, 0, 0, -12);
    refused(x, 0, 2, -1);
    refused(x, 0, 10, -1);
    refused(x, 6, 0, -1);
    refused(x, -1, 0, -1);
    x.row(0, 0, 3);
    refused(x, 0, 2, -1);
    refused(x, 0, 10, -1);
    refused(x, 0, -1, -1);
    refused(x, 0, Integer.MAX_VALUE, -1);
    refused(x, 0, Integer.MIN_VALUE, -1);
    check.due("10 GOOD 6", x.belief(0, 0, 6, 0), NONE);
    check.due("10 GOOD -1", x.belief(0, 0, -1, 0), NONE);
    check.due("10 part 2", x.belief(0, 0, 0, 2), NONE);
    check.due("10 part -1", x.belief(0, 0, 0, -1), NONE);
    check.due("11 what 2", x.likeliest(0, 0, 2), -1);
    check.due("11 what -1", x.likeliest(0, 0, -1), -1);
    check.due("12 part 2", x.worth(0, 0, 2), NONE);
    check.due("14 part 2", x.right(0, 0, 2), NONE);
    check.due("11 BAD ahead of -11", x.likeliest(1, 0, 2), -1);
    check.due("15 nothing", x.buys(1, 0, 0), -11);
    check.due("15 what ahead of -11", x.buys(1, 0, 2), -1);
    x.row(1, 3, 3);
    check.due("15 longs", x.buys(1, 0, 0), -12);
    check.due("15 BUYER 1", x.buys(0, 1, 0), -1);
    check.due("15 BUYER -1", x.buys(0, -1, 0), -1);
    check.due("15 shelf 6", x.buys(6, 0, 0), -1);
    check.due("15 what 2", x.buys(0, 0, 2), -1);
  }

  private static void bought(BlindSacks x, int purse, int much, int bits) {
    x.mend(0, 6, purse);
    check.due("15 how much for " + purse, x.buys(0, 0, 0), much);
    check.due("15 which for " + purse, x.buys(0, 0, 1), bits);
  }

  // Promise 15
  private static void buys() {
    BlindSacks x = new BlindSacks();
    x.buyer(0, 6);
    Check.bytes(x, 0);
    bought(x, 999, 0, 0);
    Check.bytes(x, 1, 0, 10, 1, 20, 2, 5, 3, 25, 4, 30);
    x.sacks(1, 0, 5);
    // each is worth 25: gains 15, 5, 20, 0, -5
    bought(x, 35, 40, 7);
    bought(x, 34, 35, 5);
    bought(x, 14, 20, 4);
    bought(x, 5, 20, 4);
    bought(x, 4, 0, 0);
    bought(x, 999, 40, 7);
    // 155 by 6 is cut to 25 for each
    x.mend(5, 0, 55);
    bought(x, 999, 40, 7);
    x.mend(5, 0, 50);
    // GOOD 5 is wanted: 200 by 6, cut to 33; gains 23, 13, 28, 8, 3
    x.mend(0, 7, 5);
    bought(x, 999, 75, 31);
    x.mend(0, 7, 6);
    // a LOOK at SACK 4: SOUND 1, which GOOD 5 alone gives: (100*3 + 50*27) by 42 = 39.2..: a gain of 9
    x.mend(5, 1, 1);
    Check.bytes(x, 0, 4, 0, 1);
    bought(x, 999, 49, 23);
    x.buyer(999, 6);
    x.sell(2, 1);
    bought(x, 999, 29, 19);
    x.open(0);
    bought(x, 999, 14, 18);
    check.due("15 the other BUYER's PURSE", x.buys(0, 1, 1), 18);
  }

  private static void buysTies() {
    BlindSacks x = new BlindSacks();
    x.buyer(0, 6);
    Check.bytes(x, 0);
    Check.bytes(x, 1, 0, 10, 1, 10, 2, 20);
    x.sacks(1, 0, 3);
    Check.law(x, "a*2");
    // the gain of each is ASKED
    bought(x, 10, 10, 1);
    bought(x, 20, 20, 4);
    bought(x, 30, 30, 5);
    bought(x, 40, 40, 7);
    x.mend(0, 5, 20);
    x.mend(2, 5, 10);
    bought(x, 20, 20, 1);
    x.mend(0, 5, 10);
    x.mend(1, 5, 20);
    bought(x, 20, 20, 2);
    // ASKED 10, 15, 15, 20: SACKS 1 and 2 are 6 by bits, SACKS 0 and 3 are 9
    x.mend(1, 5, 15);
    x.mend(2, 5, 15);
    x.sack(0);
    x.mend(3, 5, 20);
    bought(x, 30, 30, 6);
    Check.law(x, "a");
    bought(x, 40, 0, 0);
    x.mend(1, 5, 0);
    Check.law(x, "1");
    bought(x, 0, 1, 2);
  }
}
