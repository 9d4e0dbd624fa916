/** The boundaries that the document names for promises 16 to 21: dealing, groans, stock, telling apart, turns, days. */
final class DealingBoundsTest {
  private static final String DEALT = "which SACK the BUYER has (NOT: none; of like ones the first by BUYERS, none last)";
  private static final String TWOS = "10 twos at most; it ends with what is no such";
  private static final String EVEN = "0, if it does not come out even (as many GOODS as SACKS)";
  private static final String TURNS = "each may make ASKED 10 more (the seller, 99 at most), 10 less (the BUYER, 0 at least), or let it be";
  private static final String WHICH = "which (bits; of like ones the least); NOT.";

  public static void main(String[] args) throws Exception {
    Bounds.run(DealingBoundsTest.class, 16, 21);
  }

  // Promise 16

  @Says(promise = 16, value = "DEALT: how much (buyer -1), which SACK. BAD; NOT.")
  static void noBuyerAndNoSack(Case c) {
    c.due(c.x.dealt(-1), 0);
    c.due(c.x.dealt(0), Case.BAD);
    c.market(3, 0);
    c.due(c.x.dealt(-1), 0);
    c.due(c.x.dealt(0), Case.BAD);
  }

  @Says(promise = 16, value = "DEALT: how much (buyer -1), which SACK. BAD; NOT.")
  static void buyersWithoutASack(Case c) {
    c.market(0, 6);
    c.due(c.x.dealt(-1), 0);
    for (int b = 0; b < 6; b++) c.due(c.x.dealt(b), Case.NOT);
    c.due(c.x.dealt(6), Case.BAD);
  }

  @Says(promise = 16, value = "DEALT: how much (buyer -1), which SACK. BAD; NOT.")
  static void buyersThatAreNone(Case c) {
    c.market(10, 2);
    c.due(c.x.dealt(1), 1);
    for (int none : new int[] {-2, 2, 5, 6, Case.LEAST, Case.MOST}) c.refused(Case.BAD, () -> c.x.dealt(none));
  }

  @Says(promise = 16, value = "each BUYER is to have at most one SACK")
  static void moreSacksThanBuyers(Case c) {
    c.market(10, 1);
    c.due(c.x.dealt(-1), 15);
    c.due(c.x.dealt(0), 0);
    c.x.mend(9, 5, 9);
    c.due(c.x.dealt(-1), 16);
    c.due(c.x.dealt(0), 9);
  }

  @Says(promise = 16, value = "each BUYER is to have at most one SACK")
  static void moreBuyersThanSacks(Case c) {
    c.market(1, 6);
    c.due(c.x.dealt(-1), 15);
    c.due(c.x.dealt(0), 0);
    for (int b = 1; b < 6; b++) c.due(c.x.dealt(b), Case.NOT);
    c.x.mend(5, 7, 5);
    c.due(c.x.dealt(-1), 23);
    c.due(c.x.dealt(5), 0);
    for (int b = 0; b < 5; b++) c.due(c.x.dealt(b), Case.NOT);
  }

  @Says(promise = 16, value = "each BUYER is to have at most one SACK")
  static void tenSacksForSix(Case c) {
    c.market(10, 6);
    c.law("999");
    for (int s = 0; s < 10; s++) c.x.mend(s, 5, s < 4 ? 1 : 0);
    c.due(c.x.dealt(-1), 5994);
    for (int b = 0; b < 6; b++) c.due(c.x.dealt(b), 4 + b);
  }

  @Says(promise = 16, value = "nobody's below 0: he has none then")
  static void nobodysBelow0(Case c) {
    c.market(1, 1);
    c.x.mend(0, 5, 26);
    c.due(c.x.dealt(-1), 0);
    c.due(c.x.dealt(0), Case.NOT);
    c.x.mend(0, 5, 99);
    c.due(c.x.dealt(-1), 0);
    c.due(c.x.dealt(0), Case.NOT);
  }

  @Says(promise = 16, value = DEALT)
  static void noneIsLast(Case c) {
    c.market(1, 2);
    c.x.mend(0, 5, 25);
    c.due(c.x.dealt(-1), 0);
    c.due(c.x.dealt(0), 0);
    c.due(c.x.dealt(1), Case.NOT);
    c.x.mend(0, 5, 24);
    c.due(c.x.dealt(-1), 1);
  }

  @Says(promise = 16, value = DEALT)
  static void ofLikeOnesTheFirstByBuyers(Case c) {
    c.market(10, 6);
    for (int b = 0; b < 6; b++) c.due(c.x.dealt(b), b);
    for (int s = 0; s < 10; s++) c.x.mend(s, 5, s == 3 || s == 7 ? 20 : 26);
    c.due(c.x.dealt(-1), 10);
    c.due(c.x.dealt(0), 3);
    c.due(c.x.dealt(1), 7);
    for (int b = 2; b < 6; b++) c.due(c.x.dealt(b), Case.NOT);
  }

  @Says(promise = 16, value = DEALT)
  static void theFirstByBuyersThoughAnotherGainsAsMuch(Case c) {
    c.market(2, 2);
    // BUYER 0 has 25 of each, BUYER 1 30: as much, whoever has which
    c.law("25+b*5");
    c.due(c.x.dealt(-1), 35);
    c.due(c.x.dealt(0), 0);
    c.due(c.x.dealt(1), 1);
    c.x.mend(0, 5, 25);
    c.x.mend(1, 5, 25);
    c.due(c.x.dealt(-1), 5);
    c.due(c.x.dealt(0), 0);
    c.due(c.x.dealt(1), 1);
  }

  @Says(promise = 16, value = "one SACK neither SOLD nor OPEN")
  static void neitherSoldNorOpenIsDealt(Case c) {
    c.market(4, 2);
    c.x.sell(0, 1);
    c.x.open(1);
    c.due(c.x.dealt(0), 2);
    c.due(c.x.dealt(1), 3);
    c.x.sell(2, 0);
    c.x.open(3);
    c.due(c.x.dealt(-1), 0);
    c.due(c.x.dealt(0), Case.NOT);
    c.due(c.x.dealt(1), Case.NOT);
  }

  @Says(promise = 16, value = "WORTH (cut) by BELIEF without LOOKS less ASKED of all is most")
  static void worthIsCutAndThePurseIsNotAsked(Case c) {
    c.x.buyer(0, 6);
    c.x.buyer(0, 6);
    c.market(2, 0);
    // 155 by 6 is 25 and 5 by 6 for each
    c.x.mend(5, 0, 55);
    c.x.mend(5, 1, 1);
    c.bytes(0, 0, 0, 1);
    c.due(c.x.dealt(-1), 30);
    c.due(c.x.dealt(0), 0);
    c.due(c.x.dealt(1), 1);
  }

  // Promise 17

  /** How many differ, how many are worth less, the first that differs. */
  private static void groans(Case c, int differ, int less, int first) {
    c.due(c.x.groan(0, 0), differ);
    c.due(c.x.groan(0, 1), less);
    c.due(c.x.groan(0, 2), first);
  }

  @Says(promise = 17, value = TWOS)
  static void aRowOfNoneAndOfHalfATwo(Case c) {
    c.market(2, 1);
    c.bytes(0);
    groans(c, 0, 0, Case.NOT);
    c.bytes(0, 1);
    groans(c, 0, 0, Case.NOT);
    c.bytes(0, 1, 0, 0);
    groans(c, 1, 0, 1);
  }

  @Says(promise = 17, value = TWOS)
  static void tenTwosAndTheEleventh(Case c) {
    c.market(2, 1);
    c.x.sell(1, 0);
    c.x.row(0, 0, 22);
    for (int k = 0; k < 11; k++) c.x.put(0, 2 * k, k >= 9 ? 1 : 0);
    groans(c, 1, 1, 1);
    for (int k = 0; k < 11; k++) c.x.put(0, 2 * k, 1);
    groans(c, 10, 10, 1);
    c.x.row(0, 0, 60);
    for (int k = 10; k < 30; k++) c.x.put(0, 2 * k, 1);
    groans(c, 0, 0, Case.NOT);
  }

  @Says(promise = 17, value = TWOS)
  static void theSackIsNone(Case c) {
    c.market(3, 1);
    for (int none : new int[] {-1, 3, 9, 10, 127, -128}) {
      c.bytes(0, 1, 0, none, 5, 2, 0);
      groans(c, 1, 0, 1);
      c.bytes(0, none, 5, 2, 0);
      groans(c, 0, 0, Case.NOT);
    }
  }

  @Says(promise = 17, value = TWOS)
  static void theGoodIsNone(Case c) {
    c.market(3, 1);
    for (int none : new int[] {-1, 6, 127, -128}) {
      c.bytes(0, 1, 0, 2, none, 2, 0);
      groans(c, 1, 0, 1);
      c.bytes(0, 1, none, 2, 0);
      groans(c, 0, 0, Case.NOT);
    }
  }

  @Says(promise = 17, value = "the SACK told first that differs (2; NOT)")
  static void toldFirstIsNotTheLeast(Case c) {
    c.market(10, 1);
    c.bytes(0, 8, 2, 9, 5, 0, 1, 9, 4);
    groans(c, 3, 0, 9);
    c.bytes(0, 0, 0, 1, 1, 5, 5, 6, 0);
    groans(c, 0, 0, Case.NOT);
  }

  @Says(promise = 17, value = "how many are worth less to their BUYER than ASKED (SOLD ones; 1)")
  static void asMuchAsAskedIsNotLess(Case c) {
    c.market(2, 2);
    c.x.mend(0, 5, 20);
    c.x.sell(0, 1);
    c.bytes(0, 0, 2);
    groans(c, 1, 0, 0);
    c.x.mend(0, 5, 21);
    groans(c, 1, 1, 0);
    c.x.mend(1, 7, 2);
    groans(c, 1, 0, 0);
    c.x.mend(0, 5, 0);
    c.law("0");
    groans(c, 1, 0, 0);
  }

  @Says(promise = 17, value = "how many are worth less to their BUYER than ASKED (SOLD ones; 1)")
  static void whatIsNotSoldIsWorthLessToNobody(Case c) {
    c.market(3, 1);
    c.x.mend(0, 5, 99);
    c.bytes(0, 0, 0, 1, 0, 2, 0);
    groans(c, 2, 0, 1);
    c.x.open(0);
    groans(c, 2, 0, 1);
    c.x.sell(2, 0);
    groans(c, 2, 1, 1);
    c.x.open(2);
    groans(c, 2, 1, 1);
  }

  @Says(promise = 17, value = "BAD, -11, -12.")
  static void groanIsRefused(Case c) {
    c.market(1, 1);
    c.bytes(0, 0, 1);
    c.bytes(5, 0, 1);
    for (int what : new int[] {-1, 3, Case.LEAST, Case.MOST}) {
      c.refused(Case.BAD, () -> c.x.groan(0, what));
      c.refused(Case.BAD, () -> c.x.groan(1, what));
    }
    for (int shelf : new int[] {-1, 6, Case.LEAST, Case.MOST}) c.refused(Case.BAD, () -> c.x.groan(shelf, 0));
    c.due(c.x.groan(5, 0), 1);
    for (int what = 0; what <= 2; what++) c.due(c.x.groan(1, what), Case.NOTHING);
    for (int sort = 1; sort <= 4; sort++) {
      c.x.row(1, sort, 2);
      c.refused(Case.OTHER, () -> c.x.groan(1, 0));
    }
    c.knot(1, 0);
    c.refused(Case.OTHER, () -> c.x.groan(1, 2));
    c.refused(Case.BAD, () -> c.x.groan(1, 3));
  }

  // Promise 18

  @Says(promise = 18, value = "so many of each GOOD came to market (a ROW of six bytes, 0 .. 9; else BAD)")
  static void rowsThatAreNotOfSix(Case c) {
    c.market(1, 1);
    for (int n : new int[] {0, 1, 5, 7, 12, 60}) {
      c.x.row(0, 0, n);
      if (n > 0) c.x.put(0, 0, 1);
      c.refused(Case.NONE, () -> c.x.stock(0, -1));
      c.refused(Case.NONE, () -> c.x.stock(0, 0));
    }
    c.x.row(0, 0, 6);
    c.x.put(0, 0, 1);
    c.due(c.x.stock(0, -1), 1);
  }

  @Says(promise = 18, value = "so many of each GOOD came to market (a ROW of six bytes, 0 .. 9; else BAD)")
  static void bytesThatAreNone(Case c) {
    c.market(1, 1);
    for (int g = 0; g < 6; g++) {
      for (int none : new int[] {-1, 10, 127, -128}) {
        c.x.row(0, 0, 6);
        c.x.put(0, g, none);
        c.refused(Case.NONE, () -> c.x.stock(0, -1));
        c.refused(Case.NONE, () -> c.x.stock(0, 3));
      }
    }
  }

  @Says(promise = 18, value = "so many of each GOOD came to market (a ROW of six bytes, 0 .. 9; else BAD)")
  static void nineOfOneGood(Case c) {
    c.market(9, 0);
    for (int g = 0; g < 6; g++) {
      c.x.row(0, 0, 6);
      c.x.put(0, g, 9);
      c.due(c.x.stock(0, -1), 1);
      for (int of = 0; of < 6; of++) c.due(c.x.stock(0, 80 + of), of == g ? 1 : 0);
    }
  }

  @Says(promise = 18, value = EVEN)
  static void noSackAndNoGood(Case c) {
    c.bytes(0, 0, 0, 0, 0, 0, 0);
    c.due(c.x.stock(0, -1), 1);
    c.bytes(0, 0, 0, 0, 0, 0, 1);
    c.due(c.x.stock(0, -1), 0);
    c.x.sack(0);
    c.due(c.x.stock(0, -1), 1);
    c.bytes(0, 0, 0, 0, 0, 0, 0);
    c.due(c.x.stock(0, -1), 0);
    c.due(c.x.stock(0, 0), 0);
  }

  @Says(promise = 18, value = EVEN)
  static void oneTooFewAndOneTooMany(Case c) {
    c.market(4, 0);
    c.bytes(0, 1, 1, 1, 0, 0, 0);
    c.due(c.x.stock(0, -1), 0);
    c.due(c.x.stock(0, 0), 0);
    c.bytes(0, 1, 1, 1, 1, 0, 0);
    c.due(c.x.stock(0, -1), 24);
    c.due(c.x.stock(0, 33), 6);
    c.due(c.x.stock(0, 34), 0);
    c.bytes(0, 1, 1, 1, 1, 1, 0);
    c.due(c.x.stock(0, -1), 0);
    c.due(c.x.stock(0, 33), 0);
    c.bytes(0, 9, 9, 9, 9, 9, 9);
    c.due(c.x.stock(0, -1), 0);
  }

  @Says(promise = 18, value = "in how many ways all SACKS that are not OPEN could hold what is left of it")
  static void theMostWaysOfTen(Case c) {
    c.market(10, 0);
    c.bytes(0, 2, 2, 2, 2, 1, 1);
    c.due(c.x.stock(0, -1), 226800);
    c.due(c.x.stock(0, 0), 45360);
    c.due(c.x.stock(0, 95), 22680);
  }

  @Says(promise = 18, value = "(OPEN ones as they are), each SACK by itself")
  static void openOnesAsTheyAre(Case c) {
    c.market(3, 1);
    c.bytes(0, 1, 1, 1, 0, 0, 0);
    c.due(c.x.stock(0, -1), 6);
    c.x.open(2);
    c.due(c.x.stock(0, -1), 2);
    c.due(c.x.stock(0, 22), 2);
    c.due(c.x.stock(0, 21), 0);
    c.due(c.x.stock(0, 2), 0);
    c.due(c.x.stock(0, 1), 1);
    c.x.sell(0, 0);
    c.due(c.x.stock(0, -1), 2);
    c.x.dusk();
    c.due(c.x.stock(0, -1), 1);
    c.due(c.x.stock(0, 11), 1);
    c.due(c.x.stock(0, 10), 0);
  }

  @Says(promise = 18, value = EVEN)
  static void moreAreOpenThanCame(Case c) {
    c.market(2, 0);
    c.x.open(1);
    c.bytes(0, 2, 0, 0, 0, 0, 0);
    c.due(c.x.stock(0, -1), 0);
    c.due(c.x.stock(0, 0), 0);
    c.due(c.x.stock(0, 11), 0);
    c.bytes(0, 1, 0, 0, 0, 0, 0);
    c.due(c.x.stock(0, -1), 0);
    c.bytes(0, 1, 1, 0, 0, 0, 0);
    c.due(c.x.stock(0, -1), 1);
    c.due(c.x.stock(0, 11), 1);
  }

  @Says(promise = 18, value = "in how many of these (sg: 10 times the SACK, and the GOOD)")
  static void sacksAndGoodsThatAreNone(Case c) {
    c.market(2, 0);
    c.bytes(0, 1, 0, 0, 0, 0, 1);
    c.due(c.x.stock(0, 15), 1);
    c.due(c.x.stock(0, 0), 1);
    for (int none : new int[] {-2, -10, -11, 6, 7, 8, 9, 16, 19, 20, 25, 95, 100, Case.LEAST, Case.MOST}) {
      c.refused(Case.NONE, () -> c.x.stock(0, none));
    }
  }

  @Says(promise = 18, value = "Long.MIN_VALUE: BAD, no ROW of bytes.")
  static void stockOfNoRowOfBytes(Case c) {
    c.refused(Case.NONE, () -> c.x.stock(5, -1));
    for (int shelf : new int[] {-1, 6, Case.LEAST, Case.MOST}) c.refused(Case.NONE, () -> c.x.stock(shelf, -1));
    for (int sort = 1; sort <= 4; sort++) {
      c.x.row(5, sort, 6);
      c.refused(Case.NONE, () -> c.x.stock(5, -1));
    }
    c.knot(5, 0);
    c.refused(Case.NONE, () -> c.x.stock(5, -1));
    c.x.row(5, 0, 6);
    c.due(c.x.stock(5, -1), 1);
  }

  // Promise 19

  @Says(promise = 19, value = WHICH)
  static void allAlikeAtFirst(Case c) {
    c.due(c.x.tells(0), 6);
    c.due(c.x.tells(1), Case.NOT);
  }

  @Says(promise = 19, value = "how many GOODS give the same SOUND, SMELL and KNOT as another one")
  static void twoAlikeAndNone(Case c) {
    for (int g = 0; g < 6; g++) {
      c.x.mend(g, 1, g % 4);
      c.x.mend(g, 3, g / 4);
    }
    c.due(c.x.tells(0), 0);
    c.due(c.x.tells(1), 5);
    c.x.mend(5, 1, 0);
    c.due(c.x.tells(0), 2);
    c.due(c.x.tells(1), Case.NOT);
    c.x.mend(5, 2, 3);
    c.due(c.x.tells(0), 0);
    c.due(c.x.tells(1), 7);
  }

  @Says(promise = 19, value = WHICH)
  static void ofLikeFewTheLeastBits(Case c) {
    for (int g = 0; g < 6; g++) {
      c.x.mend(g, 1, g % 3);
      c.x.mend(g, 2, g / 3);
      c.x.mend(g, 3, g / 3);
    }
    c.due(c.x.tells(1), 3);
    for (int g = 0; g < 6; g++) c.x.mend(g, 2, g % 3);
    c.due(c.x.tells(1), 5);
    for (int g = 0; g < 6; g++) c.x.mend(g, 1, 0);
    c.due(c.x.tells(1), 6);
  }

  @Says(promise = 19, value = "the fewest of SOUND, SMELL, KNOT by which all six are told apart")
  static void onlyByAllThree(Case c) {
    for (int g = 0; g < 6; g++) {
      for (int k = 0; k < 3; k++) c.x.mend(g, 1 + k, g >> k & 1);
    }
    c.due(c.x.tells(0), 0);
    c.due(c.x.tells(1), 7);
  }

  @Says(promise = 19, value = "TELLS: how many alike (what 0), which (1; NOT). BAD.")
  static void tellsIsRefused(Case c) {
    for (int what : new int[] {-1, 2, Case.LEAST, Case.MOST}) c.refused(Case.BAD, () -> c.x.tells(what));
  }

  // Promise 20

  private static void turns(Case c, int asked, int n, int paid, int raises) {
    c.x.mend(0, 5, asked);
    c.due(c.x.byTurns(0, n, 0), paid);
    c.due(c.x.byTurns(0, n, 1), raises);
  }

  /** One SACK, one BUYER with a PURSE, and each GOOD worth as much. */
  private static void one(Case c, int purse, String worth) {
    c.x.sack(0);
    c.x.buyer(purse, 6);
    c.law(worth);
  }

  @Says(promise = 20, value = "n (1 .. 4) times in all, the seller first")
  static void oneTurnToFour(Case c) {
    one(c, 999, "25");
    turns(c, 10, 1, 20, 1);
    turns(c, 10, 2, 10, 1);
    turns(c, 10, 3, 20, 1);
    turns(c, 10, 4, 10, 1);
    turns(c, 35, 1, 0, 0);
    turns(c, 35, 2, 0, 0);
    turns(c, 35, 3, 0, 0);
    turns(c, 35, 4, 15, 0);
  }

  @Says(promise = 20, value = "n (1 .. 4) times in all, the seller first")
  static void noTurnAndFive(Case c) {
    one(c, 999, "25");
    for (int n : new int[] {0, -1, 5, Case.LEAST, Case.MOST}) {
      c.refused(Case.BAD, () -> c.x.byTurns(0, n, 0));
      c.refused(Case.BAD, () -> c.x.byTurns(0, n, 1));
    }
  }

  @Says(promise = 20, value = TURNS)
  static void the99ThatIsAskedAtMost(Case c) {
    one(c, 999, "999");
    turns(c, 88, 1, 98, 1);
    turns(c, 89, 1, 99, 1);
    turns(c, 90, 1, 99, 1);
    turns(c, 98, 1, 99, 1);
    turns(c, 99, 1, 99, 0);
    turns(c, 98, 2, 89, 1);
    turns(c, 99, 2, 89, 0);
    turns(c, 99, 3, 99, 0);
    turns(c, 99, 4, 89, 0);
  }

  @Says(promise = 20, value = TURNS)
  static void the0ThatIsAskedAtLeast(Case c) {
    one(c, 999, "20");
    turns(c, 0, 1, 10, 1);
    turns(c, 0, 2, 0, 0);
    turns(c, 0, 3, 10, 0);
    turns(c, 0, 4, 0, 0);
    turns(c, 1, 2, 1, 1);
    turns(c, 5, 2, 5, 1);
    turns(c, 9, 4, 9, 1);
  }

  @Says(promise = 20, value = "if WORTH (cut, without LOOKS) is ASKED or more")
  static void worthAsAskedAndOneLess(Case c) {
    one(c, 999, "25");
    turns(c, 15, 1, 25, 1);
    turns(c, 16, 1, 16, 0);
    turns(c, 25, 1, 25, 0);
    turns(c, 26, 1, 0, 0);
    turns(c, 24, 2, 24, 1);
    turns(c, 25, 2, 15, 0);
    turns(c, 34, 2, 24, 0);
    turns(c, 35, 2, 0, 0);
  }

  @Says(promise = 20, value = "if WORTH (cut, without LOOKS) is ASKED or more")
  static void worthIsCutAndWithoutLooks(Case c) {
    c.x.sack(0);
    c.x.buyer(999, 6);
    c.x.mend(5, 0, 55);
    c.x.mend(5, 1, 1);
    c.bytes(0, 0, 0, 1, 0, 0, 1);
    turns(c, 16, 1, 16, 0);
    c.x.mend(5, 0, 56);
    turns(c, 16, 1, 26, 1);
  }

  @Says(promise = 20, value = "and PURSE, too")
  static void aPurseAsAskedAndOneLess(Case c) {
    one(c, 20, "25");
    turns(c, 10, 1, 20, 1);
    turns(c, 11, 1, 11, 0);
    turns(c, 20, 1, 20, 0);
    turns(c, 21, 1, 0, 0);
    turns(c, 30, 2, 20, 0);
    turns(c, 31, 2, 0, 0);
  }

  @Says(promise = 20, value = "0: not bought")
  static void anEmptyPurseBuysForNothing(Case c) {
    one(c, 0, "25");
    turns(c, 0, 1, 0, 0);
    turns(c, 5, 1, 0, 0);
    turns(c, 5, 2, 0, 0);
    turns(c, 10, 4, 0, 0);
  }

  @Says(promise = 20, value = "of like ones each lets it be")
  static void ofLikeOnesEachLetsItBe(Case c) {
    one(c, 999, "a");
    turns(c, 10, 2, 20, 1);
    turns(c, 99, 2, 99, 0);
    c.law("0");
    turns(c, 10, 4, 0, 0);
    turns(c, 0, 4, 0, 0);
    turns(c, 0, 1, 0, 0);
  }

  @Says(promise = 20, value = "STATE: it is SOLD or OPEN.")
  static void turnsOfASoldAndOfAnOpenSack(Case c) {
    c.market(10, 6);
    c.x.sell(0, 0);
    c.x.open(9);
    c.x.sell(5, 5);
    c.x.open(5);
    for (int s = 0; s < 10; s++) {
      boolean free = s != 0 && s != 5 && s != 9;
      c.due(c.x.byTurns(50 + s, 1, 0), free ? 20 : Case.STATE);
      c.due(c.x.byTurns(50 + s, 1, 1), free ? 1 : Case.STATE);
    }
    c.refused(Case.BAD, () -> c.x.byTurns(0, 0, 0));
    c.refused(Case.BAD, () -> c.x.byTurns(9, 5, 0));
    c.refused(Case.BAD, () -> c.x.byTurns(9, 1, 2));
    c.refused(Case.STATE, () -> c.x.byTurns(9, 1, 1));
  }

  @Says(promise = 20, value = "BY TURNS (bs as above): what is paid (what 0), whether he raises it (1). BAD")
  static void eachSackByItsOwnAsked(Case c) {
    c.market(10, 6);
    for (int s = 0; s < 10; s++) c.x.mend(s, 5, 9 + s);
    for (int s = 0; s < 10; s++) {
      boolean raises = 19 + s <= 25;
      c.due(c.x.byTurns(50 + s, 1, 0), raises ? 19 + s : 9 + s);
      c.due(c.x.byTurns(50 + s, 1, 1), raises ? 1 : 0);
    }
  }

  @Says(promise = 20, value = "BY TURNS (bs as above): what is paid (what 0), whether he raises it (1). BAD")
  static void eachBuyerByHisOwnPurse(Case c) {
    c.market(10, 6);
    c.law("999");
    for (int b = 0; b < 6; b++) c.x.mend(b, 6, 98 + b % 2);
    for (int s = 0; s < 10; s++) {
      c.x.mend(s, 5, 99);
      for (int b = 0; b < 6; b++) {
        c.due(c.x.byTurns(10 * b + s, 1, 0), b % 2 == 0 ? 0 : 99);
        c.due(c.x.byTurns(10 * b + s, 1, 1), 0);
      }
    }
  }

  @Says(promise = 20, value = "BY TURNS (bs as above): what is paid (what 0), whether he raises it (1). BAD")
  static void turnsOfWhatIsNone(Case c) {
    c.market(2, 2);
    c.due(c.x.byTurns(11, 1, 0), 20);
    for (int bs : new int[] {2, 9, 12, 13, 19, 20, 21, 100, -1, -10, -11, Case.LEAST, Case.MOST}) {
      c.refused(Case.BAD, () -> c.x.byTurns(bs, 1, 0));
      c.refused(Case.BAD, () -> c.x.byTurns(bs, 1, 1));
    }
    for (int what : new int[] {-1, 2, Case.LEAST, Case.MOST}) c.refused(Case.BAD, () -> c.x.byTurns(0, 1, what));
  }

  // Promise 21

  private static void days(Case c, int seed, int n, int bought, int gain) {
    c.due(c.x.drawn(seed, n, 0, 0), bought);
    c.due(c.x.drawn(seed, n, 0, 1), gain);
  }

  @Says(promise = 21, value = "n days (1 .. 30) by a SEED")
  static void oneDay(Case c) {
    one(c, 99, "99");
    days(c, 5, 1, 1, 89);
    days(c, 5, 2, 2, 178);
  }

  @Says(promise = 21, value = "n days (1 .. 30) by a SEED")
  static void thirtyDays(Case c) {
    one(c, 99, "99");
    days(c, 5, 29, 29, 29 * 89);
    days(c, 5, 30, 30, 30 * 89);
  }

  @Says(promise = 21, value = "n days (1 .. 30) by a SEED")
  static void noDayAndThirtyOne(Case c) {
    one(c, 99, "99");
    for (int n : new int[] {0, -1, 31, Case.LEAST, Case.MOST}) {
      c.refused(Case.VOID, () -> c.x.drawn(5, n, 0, 0));
      c.refused(Case.VOID, () -> c.x.drawn(5, n, 0, 1));
    }
  }

  @Says(promise = 21, value = "z = z * 1103515245 + 12345 (an int; SEED at first)")
  static void seedsAtTheEnds(Case c) {
    // the GOODS of the greatest SEED are 5 2 5 1 0 0, of the least 2 4 1 2 2 2, of -1 1 0 3 3 4 2, of 0 0 0 3 4 0 4
    one(c, 99, "g");
    c.x.mend(0, 5, 2);
    c.x.mend(0, 4, 5);
    days(c, Case.MOST, 6, 3, 9);
    days(c, Case.LEAST, 6, 5, 15);
    days(c, -1, 6, 4, 12);
    days(c, 0, 6, 3, 9);
    days(c, Case.MOST, 1, 1, 3);
    days(c, -1, 1, 0, 0);
  }

  @Says(promise = 21, value = "he buys it for ASKED, if its worth is ASKED or more")
  static void worthAsAskedAndOneLessIsDrawn(Case c) {
    // of SEED 0: GOODS 0, 0, 3
    one(c, 99, "g=3?20;19");
    c.x.mend(0, 5, 19);
    days(c, 0, 3, 3, 0);
    c.x.mend(0, 5, 20);
    days(c, 0, 3, 1, -1);
    c.x.mend(0, 5, 21);
    days(c, 0, 3, 0, 0);
  }

  @Says(promise = 21, value = "and what is left of his PURSE (that of the day)")
  static void aPurseOfTheDay(Case c) {
    one(c, 20, "99");
    c.x.sack(0);
    c.x.sack(0);
    days(c, 7, 1, 2, 178);
    days(c, 7, 30, 60, 60 * 89);
    c.x.mend(0, 6, 19);
    days(c, 7, 30, 30, 30 * 89);
    c.x.mend(0, 6, 9);
    days(c, 7, 30, 0, 0);
    c.x.mend(2, 5, 9);
    days(c, 7, 30, 30, 30 * 90);
    c.due(c.x.of(0, 6), 9);
  }

  @Says(promise = 21, value = "ahead of each SACK neither SOLD nor OPEN, by numbers")
  static void soldAndOpenSacksDrawNothing(Case c) {
    c.market(4, 2);
    c.law("g=3?50;0");
    c.x.sell(0, 1);
    c.x.open(2);
    // SACKS 1 and 3 by turns: GOODS 0 0, 3 4, 0 4, 0 3: one of SACK 1 on day 2, one of SACK 3 on day 4
    days(c, 0, 1, 0, 0);
    days(c, 0, 2, 1, -10);
    days(c, 0, 4, 2, 30);
    c.x.open(1);
    c.x.open(3);
    days(c, 0, 30, 0, 0);
  }

  @Says(promise = 21, value = "how many he buys, all together; what they are worth by what is IN, less what he paid, all together")
  static void theMostAndTheLeast(Case c) {
    c.market(10, 6);
    c.law("999");
    c.x.mend(0, 6, 999);
    for (int s = 0; s < 10; s++) c.x.mend(s, 5, 0);
    days(c, 1, 30, 300, 299700);
    for (int s = 0; s < 10; s++) {
      c.x.mend(s, 5, 99);
      c.x.mend(s, 4, 0);
    }
    c.x.mend(0, 6, 990);
    // two of the ten GOODS of SEED 1 are 0
    c.law("g?99;0");
    c.due(c.x.drawn(1, 1, 0, 0), 8);
    c.due(c.x.drawn(1, 1, 0, 1), -792);
  }

  @Says(promise = 21, value = "to a BUYER: he buys it for ASKED")
  static void byWhatTheBuyerWants(Case c) {
    c.market(1, 6);
    c.x.mend(0, 4, 3);
    c.x.mend(5, 7, 3);
    c.law("w*50");
    // of SEED 0: GOODS 0, 0, 3
    c.due(c.x.drawn(0, 3, 5, 0), 1);
    c.due(c.x.drawn(0, 3, 5, 1), 40);
    c.due(c.x.drawn(0, 3, 0, 0), 0);
  }

  @Says(promise = 21, value = "VOID: BAD.")
  static void drawnIsRefused(Case c) {
    c.market(1, 2);
    c.due(c.x.drawn(0, 1, 1, 0), 0);
    for (int buyer : new int[] {-1, 2, 6, Case.LEAST, Case.MOST}) c.refused(Case.VOID, () -> c.x.drawn(0, 1, buyer, 0));
    for (int what : new int[] {-1, 2, Case.LEAST, Case.MOST}) c.refused(Case.VOID, () -> c.x.drawn(0, 1, 0, what));
  }

  @Says(promise = 21, value = "DRAWN: how many (what 0), worth less paid (1).")
  static void noSackIsDrawn(Case c) {
    c.market(0, 1);
    days(c, 0, 30, 0, 0);
  }
}
