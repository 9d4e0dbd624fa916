/** The boundaries that the document names for promises 1 to 6: sacks, buyers, their numbers. */
final class MarketBoundsTest {
  private static final int[] LEAST = {0, 0, 0, 0, 0, 0, 0, 0, 1}, MOST = {99, 3, 3, 3, 5, 99, 999, 6, 11};

  public static void main(String[] args) throws Exception {
    Bounds.run(MarketBoundsTest.class, 1, 6);
  }

  // Promise 1

  @Says(promise = 1, value = "An empty market.")
  static void nothingIsCountedAtFirst(Case c) {
    for (int what = 0; what <= 5; what++) c.due(c.x.count(what), 0);
    for (int what = 0; what <= 4; what++) c.due(c.x.led(what), 0);
    for (int i = 0; i < 24; i++) c.due(c.x.trace(i), Case.BAD);
  }

  @Says(promise = 1, value = "An empty market.")
  static void anEmptyMarketHasNoSackAndNoBuyer(Case c) {
    for (int what = 4; what <= 10; what++) c.due(c.x.of(0, what), Case.VOID);
    for (int what = 4; what <= 8; what++) c.due(c.x.mend(0, what, 1), Case.VOID);
    c.due(c.x.worthOf(0, 0), Case.BAD);
    c.due(c.x.open(0), Case.BAD);
    c.due(c.x.sell(0, 0), Case.BAD);
    c.due(c.x.dealt(0), Case.BAD);
    c.due(c.x.byTurns(0, 1, 0), Case.BAD);
    c.due(c.x.drawn(0, 1, 0, 0), Case.VOID);
  }

  @Says(promise = 1, value = "An empty market.")
  static void anEmptyMarketByLooks(Case c) {
    c.bytes(0);
    c.due(c.x.belief(0, 0, 0, 0), Case.NONE);
    c.due(c.x.likeliest(0, 0, 0), Case.BAD);
    c.due(c.x.worth(0, 0, 0), Case.NONE);
    c.due(c.x.next(0, 0), Case.BAD);
    c.due(c.x.right(0, 0, 0), Case.NONE);
    c.due(c.x.buys(0, 0, 0), Case.BAD);
    c.due(c.x.groan(0, 0), 0);
    c.due(c.x.groan(0, 1), 0);
    c.due(c.x.groan(0, 2), Case.NOT);
  }

  @Says(promise = 1, value = "An empty market.")
  static void anEmptyMarketInDeed(Case c) {
    c.due(c.x.back(), Case.STATE);
    c.due(c.x.undo(), Case.STATE);
    c.due(c.x.redo(), Case.STATE);
    c.due(c.x.dealt(-1), 0);
    c.due(c.x.image(), 0);
    c.due(c.x.back(), 0);
    c.due(c.x.dusk(), 0);
    c.due(c.x.led(4), 1);
    c.due(c.x.law(), -100);
    c.due(c.x.act(0, 0, 0), 0);
  }

  @Says(promise = 1, value = "10 times its number at first")
  static void pricesAtFirst(Case c) {
    for (int g = 0; g <= 5; g++) c.due(c.x.of(g, 0), 10 * g);
  }

  @Says(promise = 1, value = "SOUND, SMELL, KNOT (0 .. 3 each; 0 at first)")
  static void whatSacksGiveAtFirst(Case c) {
    for (int g = 0; g <= 5; g++) {
      for (int what = 1; what <= 3; what++) c.due(c.x.of(g, what), 0);
    }
  }

  @Says(promise = 1, value = "SHELVES 0 .. 5 each hold nothing (at first)")
  static void shelvesAtFirst(Case c) {
    for (int shelf = 0; shelf <= 5; shelf++) {
      c.due(c.x.put(shelf, 0, 1), Case.NOTHING);
      c.due(c.x.taken(shelf, 0), Case.NOTHING);
    }
  }

  @Says(promise = 1, value = "All memory is the class's own.")
  static void twoMarketsAreApart(Case c) {
    BlindSacks other = new BlindSacks();
    c.market(2, 2);
    c.law("7");
    c.x.mend(0, 0, 5);
    c.x.mend(3, 1, 2);
    c.bytes(0, 1, 2, 3);
    c.x.body(1);
    c.x.act(0, 0, 1);
    c.x.dusk();
    c.x.image();
    for (int what = 0; what <= 5; what++) c.due(other.count(what), 0);
    for (int what = 0; what <= 4; what++) c.due(other.led(what), 0);
    c.due(other.of(0, 0), 0);
    c.due(other.of(3, 1), 0);
    c.due(other.put(0, 0, 1), Case.NOTHING);
    c.due(other.back(), Case.STATE);
    other.sack(0);
    other.buyer(0, 6);
    c.due(other.worthOf(0, 3), 30);
    c.due(c.x.worthOf(0, 3), 7);
  }

  // Promise 2

  @Says(promise = 2, value = "GOODS 0 .. 5")
  static void sackOfTheLeastGood(Case c) {
    c.due(c.x.sack(0), 0);
    c.due(c.x.of(0, 4), 0);
  }

  @Says(promise = 2, value = "GOODS 0 .. 5")
  static void sackOfTheGreatestGood(Case c) {
    c.due(c.x.sack(5), 0);
    c.due(c.x.of(0, 4), 5);
  }

  @Says(promise = 2, value = "GOODS 0 .. 5")
  static void sackOfAGoodBelow(Case c) {
    c.refused(Case.BAD, () -> c.x.sack(-1));
    c.refused(Case.BAD, () -> c.x.sack(Case.LEAST));
    c.due(c.x.count(0), 0);
  }

  @Says(promise = 2, value = "GOODS 0 .. 5")
  static void sackOfAGoodAbove(Case c) {
    c.refused(Case.BAD, () -> c.x.sack(6));
    c.refused(Case.BAD, () -> c.x.sack(Case.MOST));
    c.due(c.x.count(0), 0);
  }

  @Says(promise = 2, value = "SACKS 0 .. 9, as they come")
  static void tenSacksCome(Case c) {
    for (int k = 0; k <= 9; k++) c.due(c.x.sack(k % 6), k);
    c.due(c.x.count(0), 10);
    for (int k = 0; k <= 9; k++) c.due(c.x.of(k, 4), k % 6);
  }

  @Says(promise = 2, value = "BAD, FULL: 10.")
  static void theEleventhSack(Case c) {
    c.market(10, 0);
    c.refused(Case.FULL, () -> c.x.sack(0));
    c.due(c.x.count(0), 10);
  }

  @Says(promise = 2, value = "BAD, FULL: 10.")
  static void aBadSackAmongTenIsBad(Case c) {
    c.market(10, 0);
    c.refused(Case.BAD, () -> c.x.sack(6));
    c.refused(Case.BAD, () -> c.x.sack(-1));
  }

  @Says(promise = 2, value = "what is IN (a GOOD), SOLD (-1, or the BUYER; -1 at first), OPEN (0, 1; 0 at first), ASKED (0 .. 99; 10 at first)")
  static void aSackAtFirst(Case c) {
    c.x.sack(3);
    c.due(c.x.of(0, 4), 3);
    c.due(c.x.of(0, 5), 10);
    c.due(c.x.of(0, 9), -1);
    c.due(c.x.of(0, 10), 0);
  }

  // Promise 3

  @Says(promise = 3, value = "n (1 .. 10) of them")
  static void oneSackFromARow(Case c) {
    c.bytes(0, 1, 11, 2, 22);
    c.due(c.x.sacks(0, 0, 1), 1);
    c.due(c.x.count(0), 1);
    c.due(c.x.of(0, 4), 1);
    c.due(c.x.of(0, 5), 11);
  }

  @Says(promise = 3, value = "n (1 .. 10) of them")
  static void tenSacksFromARow(Case c) {
    c.x.row(0, 0, 22);
    for (int k = 0; k < 11; k++) {
      c.x.put(0, 2 * k, k % 6);
      c.x.put(0, 2 * k + 1, 9 * k);
    }
    c.due(c.x.sacks(0, 0, 10), 10);
    for (int k = 0; k < 10; k++) {
      c.due(c.x.of(k, 4), k % 6);
      c.due(c.x.of(k, 5), 9 * k);
    }
  }

  @Says(promise = 3, value = "n (1 .. 10) of them")
  static void noSackFromARow(Case c) {
    c.bytes(0, 1, 11);
    c.refused(Case.BAD, () -> c.x.sacks(0, 0, 0));
    c.refused(Case.BAD, () -> c.x.sacks(0, 0, -1));
    c.refused(Case.BAD, () -> c.x.sacks(0, 0, Case.LEAST));
  }

  @Says(promise = 3, value = "n (1 .. 10) of them")
  static void elevenSacksFromARow(Case c) {
    c.x.row(0, 0, 60);
    c.refused(Case.BAD, () -> c.x.sacks(0, 0, 11));
    c.refused(Case.BAD, () -> c.x.sacks(0, 0, Case.MOST));
  }

  @Says(promise = 3, value = "SHELVES 0 .. 5")
  static void sacksFromTheShelvesAtTheEnds(Case c) {
    c.bytes(0, 1, 11);
    c.bytes(5, 2, 22);
    c.due(c.x.sacks(0, 0, 1), 1);
    c.due(c.x.sacks(5, 0, 1), 1);
    c.due(c.x.of(1, 4), 2);
    c.refused(Case.BAD, () -> c.x.sacks(-1, 0, 1));
    c.refused(Case.BAD, () -> c.x.sacks(6, 0, 1));
    c.refused(Case.BAD, () -> c.x.sacks(Case.LEAST, 0, 1));
    c.refused(Case.BAD, () -> c.x.sacks(Case.MOST, 0, 1));
  }

  @Says(promise = 3, value = "-12 (no ROW of bytes; a SHELF that holds nothing is missing)")
  static void sacksFromAnotherKind(Case c) {
    for (int sort = 1; sort <= 4; sort++) {
      c.x.row(0, sort, 4);
      c.refused(Case.OTHER, () -> c.x.sacks(0, 0, 1));
    }
    c.knot(1, 0);
    c.refused(Case.OTHER, () -> c.x.sacks(1, 0, 1));
    c.refused(Case.BAD, () -> c.x.sacks(1, 0, 11));
    c.refused(Case.BAD, () -> c.x.sacks(1, 0, 0));
  }

  @Says(promise = 3, value = "a SHELF that holds nothing is missing")
  static void sacksFromAMissingRow(Case c) {
    c.refused(0, () -> c.x.sacks(0, 0, 1));
    c.refused(0, () -> c.x.sacks(0, 0, 10));
    c.refused(0, () -> c.x.sacks(0, -1, 1));
    c.refused(0, () -> c.x.sacks(0, Case.LEAST, 1));
    c.refused(0, () -> c.x.sacks(0, Case.MOST, 1));
    c.bytes(0, 1, 11);
    c.x.keep(0, -1);
    c.refused(0, () -> c.x.sacks(0, 0, 1));
    c.refused(Case.BAD, () -> c.x.sacks(0, 0, 0));
  }

  @Says(promise = 3, value = "it ends where the row is missing, ends (within a two, too)")
  static void sacksFromARowOfNone(Case c) {
    c.bytes(0);
    c.refused(0, () -> c.x.sacks(0, 0, 1));
    c.refused(0, () -> c.x.sacks(0, 1, 10));
  }

  @Says(promise = 3, value = "ends (within a two, too)")
  static void sacksUntilTheRowEnds(Case c) {
    c.bytes(0, 1, 11, 2, 22, 3, 33);
    c.due(c.x.sacks(0, 0, 10), 3);
    c.due(c.x.count(0), 3);
    c.due(c.x.of(2, 5), 33);
  }

  @Says(promise = 3, value = "ends (within a two, too)")
  static void sacksUntilTheRowEndsWithinATwo(Case c) {
    c.bytes(0, 1, 11, 2, 22, 3);
    c.due(c.x.sacks(0, 0, 3), 2);
    c.due(c.x.count(0), 2);
    c.bytes(1, 4);
    c.refused(0, () -> c.x.sacks(1, 0, 1));
  }

  @Says(promise = 3, value = "from place i on")
  static void sacksFromTheLastTwo(Case c) {
    c.x.row(0, 0, 60);
    c.x.put(0, 58, 4);
    c.x.put(0, 59, 44);
    c.due(c.x.sacks(0, 58, 10), 1);
    c.due(c.x.of(0, 4), 4);
    c.due(c.x.of(0, 5), 44);
    c.refused(0, () -> c.x.sacks(0, 59, 1));
  }

  @Says(promise = 3, value = "from place i on")
  static void sacksFromAnOddPlace(Case c) {
    c.bytes(0, 9, 1, 11, 2, 22, 0);
    c.due(c.x.sacks(0, 1, 2), 2);
    c.due(c.x.of(0, 4), 1);
    c.due(c.x.of(1, 5), 22);
    c.refused(0, () -> c.x.sacks(0, 5, 1));
  }

  @Says(promise = 3, value = "from place i on")
  static void sacksFromAPlaceBeyondTheEnd(Case c) {
    c.bytes(0, 1, 11);
    c.refused(0, () -> c.x.sacks(0, 2, 1));
    c.refused(0, () -> c.x.sacks(0, 60, 1));
    c.refused(0, () -> c.x.sacks(0, Case.MOST - 1, 10));
    c.refused(0, () -> c.x.sacks(0, Case.MOST, 10));
  }

  @Says(promise = 3, value = "from place i on")
  static void sacksFromAPlaceBelow(Case c) {
    c.bytes(0, 1, 1, 1, 1);
    c.refused(0, () -> c.x.sacks(0, -1, 10));
    c.refused(0, () -> c.x.sacks(0, -2, 10));
    c.refused(0, () -> c.x.sacks(0, Case.LEAST, 10));
  }

  @Says(promise = 3, value = "one is not so")
  static void sacksUntilAGoodIsNone(Case c) {
    for (int none : new int[] {-1, 6, 127, -128}) {
      c.bytes(0, 1, 11, none, 22, 3, 33);
      c.due(c.x.sacks(0, 0, 3), 1);
      c.refused(0, () -> c.x.sacks(0, 2, 2));
    }
    c.due(c.x.count(0), 4);
  }

  @Says(promise = 3, value = "one is not so")
  static void sacksUntilAskedIsNotSo(Case c) {
    for (int none : new int[] {-1, 100, 127, -128}) {
      c.bytes(0, 1, 11, 2, none, 3, 33);
      c.due(c.x.sacks(0, 0, 3), 1);
      c.refused(0, () -> c.x.sacks(0, 2, 2));
    }
    c.due(c.x.count(0), 4);
  }

  @Says(promise = 3, value = "by twos IN, ASKED")
  static void sacksOfTheLeastAndTheMost(Case c) {
    c.bytes(0, 0, 0, 5, 99);
    c.due(c.x.sacks(0, 0, 2), 2);
    c.due(c.x.of(0, 4), 0);
    c.due(c.x.of(0, 5), 0);
    c.due(c.x.of(1, 4), 5);
    c.due(c.x.of(1, 5), 99);
    c.due(c.x.of(1, 9), -1);
    c.due(c.x.of(1, 10), 0);
  }

  @Says(promise = 3, value = "or SACKS are FULL: those ahead came")
  static void sacksUntilFull(Case c) {
    c.market(8, 0);
    c.bytes(0, 1, 11, 2, 22, 3, 33);
    c.due(c.x.sacks(0, 0, 3), 2);
    c.due(c.x.count(0), 10);
    c.due(c.x.of(9, 5), 22);
  }

  @Says(promise = 3, value = "or SACKS are FULL: those ahead came")
  static void sacksOfAMarketThatIsFull(Case c) {
    c.market(10, 0);
    c.bytes(0, 1, 11);
    c.refused(0, () -> c.x.sacks(0, 0, 1));
    c.x.row(0, 1, 2);
    c.refused(Case.OTHER, () -> c.x.sacks(0, 0, 1));
  }

  // Promise 4

  @Says(promise = 4, value = "PURSE (0 .. 999)")
  static void pursesAtTheEnds(Case c) {
    c.due(c.x.buyer(0, 3), 0);
    c.due(c.x.buyer(999, 3), 1);
    c.due(c.x.of(0, 6), 0);
    c.due(c.x.of(1, 6), 999);
  }

  @Says(promise = 4, value = "PURSE (0 .. 999)")
  static void pursesBeyondTheEnds(Case c) {
    for (int purse : new int[] {-1, 1000, Case.LEAST, Case.MOST}) c.refused(Case.BAD, () -> c.x.buyer(purse, 3));
    c.due(c.x.count(1), 0);
  }

  @Says(promise = 4, value = "WANTS (a GOOD, or 6: none)")
  static void wantsAtTheEnds(Case c) {
    c.due(c.x.buyer(1, 0), 0);
    c.due(c.x.buyer(1, 5), 1);
    c.due(c.x.buyer(1, 6), 2);
    c.due(c.x.of(0, 7), 0);
    c.due(c.x.of(1, 7), 5);
    c.due(c.x.of(2, 7), 6);
  }

  @Says(promise = 4, value = "WANTS (a GOOD, or 6: none)")
  static void wantsBeyondTheEnds(Case c) {
    for (int wants : new int[] {-1, 7, Case.LEAST, Case.MOST}) c.refused(Case.BAD, () -> c.x.buyer(1, wants));
    c.due(c.x.count(1), 0);
  }

  @Says(promise = 4, value = "9 at first")
  static void theEarAtFirst(Case c) {
    for (int k = 0; k < 6; k++) {
      c.x.buyer(k, k);
      c.due(c.x.of(k, 8), 9);
    }
  }

  @Says(promise = 4, value = "BUYERS 0 .. 5, as they come")
  static void sixBuyersCome(Case c) {
    for (int k = 0; k <= 5; k++) c.due(c.x.buyer(10 * k, k + 1), k);
    for (int k = 0; k <= 5; k++) {
      c.due(c.x.of(k, 6), 10 * k);
      c.due(c.x.of(k, 7), k + 1);
    }
  }

  @Says(promise = 4, value = "BAD, FULL: 6.")
  static void theSeventhBuyer(Case c) {
    c.market(0, 6);
    c.refused(Case.FULL, () -> c.x.buyer(1, 1));
    c.due(c.x.count(1), 6);
  }

  @Says(promise = 4, value = "BAD, FULL: 6.")
  static void aBadBuyerAmongSixIsBad(Case c) {
    c.market(0, 6);
    c.refused(Case.BAD, () -> c.x.buyer(1000, 1));
    c.refused(Case.BAD, () -> c.x.buyer(1, 7));
  }

  // Promises 5 and 6

  /** A 'what' is mended to its ends, and not beyond them. */
  private static void ends(Case c, int what) {
    c.market(1, 1);
    int number = 0;
    int first = c.x.of(number, what);
    c.due(c.x.mend(number, what, LEAST[what]), first);
    c.due(c.x.of(number, what), LEAST[what]);
    c.refused(Case.VOID, () -> c.x.mend(number, what, LEAST[what] - 1));
    c.due(c.x.mend(number, what, MOST[what]), LEAST[what]);
    c.due(c.x.of(number, what), MOST[what]);
    c.refused(Case.VOID, () -> c.x.mend(number, what, MOST[what] + 1));
    c.refused(Case.VOID, () -> c.x.mend(number, what, Case.LEAST));
    c.refused(Case.VOID, () -> c.x.mend(number, what, Case.MOST));
    c.refused(Case.VOID, () -> c.x.mend(number, what, Case.VOID));
  }

  @Says(promise = 5, value = "PRICE (0 .. 99")
  static void thePrice(Case c) {
    ends(c, 0);
  }

  @Says(promise = 5, value = "SOUND, SMELL, KNOT (0 .. 3 each")
  static void theSound(Case c) {
    ends(c, 1);
  }

  @Says(promise = 5, value = "SOUND, SMELL, KNOT (0 .. 3 each")
  static void theSmell(Case c) {
    ends(c, 2);
  }

  @Says(promise = 5, value = "SOUND, SMELL, KNOT (0 .. 3 each")
  static void theKnot(Case c) {
    ends(c, 3);
  }

  @Says(promise = 5, value = "what is IN (a GOOD)")
  static void whatIsIn(Case c) {
    ends(c, 4);
  }

  @Says(promise = 5, value = "ASKED (0 .. 99")
  static void asked(Case c) {
    ends(c, 5);
  }

  @Says(promise = 5, value = "PURSE (0 .. 999)")
  static void thePurse(Case c) {
    ends(c, 6);
  }

  @Says(promise = 5, value = "WANTS (a GOOD, or 6: none)")
  static void whatHeWants(Case c) {
    ends(c, 7);
  }

  @Says(promise = 5, value = "EAR (1 .. 11")
  static void theEar(Case c) {
    ends(c, 8);
  }

  /** The last number that there is, and those beyond it and below 0. */
  private static void numbers(Case c, int what, int last) {
    int first = c.x.of(last, what);
    c.due(c.x.mend(last, what, 1), first);
    c.due(c.x.of(last, what), 1);
    for (int none : new int[] {last + 1, -1, 10, Case.LEAST, Case.MOST}) {
      c.refused(Case.VOID, () -> c.x.mend(none, what, 1));
      c.due(c.x.of(none, what), Case.VOID);
    }
  }

  @Says(promise = 5, value = "of a GOOD")
  static void theLastGood(Case c) {
    c.market(10, 6);
    for (int what = 0; what <= 3; what++) numbers(c, what, 5);
  }

  @Says(promise = 5, value = "of a SACK")
  static void theLastSackOfTwo(Case c) {
    c.market(2, 6);
    for (int what = 4; what <= 5; what++) numbers(c, what, 1);
  }

  @Says(promise = 5, value = "of a SACK")
  static void theLastSackOfTen(Case c) {
    c.market(10, 0);
    for (int what = 4; what <= 5; what++) numbers(c, what, 9);
  }

  @Says(promise = 5, value = "of a BUYER")
  static void theLastBuyerOfTwo(Case c) {
    c.market(10, 2);
    for (int what = 6; what <= 8; what++) numbers(c, what, 1);
  }

  @Says(promise = 5, value = "of a BUYER")
  static void theLastBuyerOfSix(Case c) {
    c.market(0, 6);
    for (int what = 6; what <= 8; what++) numbers(c, what, 5);
  }

  @Says(promise = 5, value = "VOID: BAD.")
  static void whatCannotBeMended(Case c) {
    c.market(1, 1);
    for (int what : new int[] {-1, 9, 10, 11, Case.LEAST, Case.MOST}) {
      c.refused(Case.VOID, () -> c.x.mend(0, what, 0));
      c.refused(Case.VOID, () -> c.x.mend(0, what, 1));
    }
  }

  @Says(promise = 5, value = "becomes v: what it was")
  static void theSameNumberIsToldAgain(Case c) {
    c.market(1, 1);
    c.due(c.x.mend(0, 5, 10), 10);
    c.due(c.x.mend(0, 5, 11), 10);
    c.due(c.x.mend(0, 5, 11), 11);
    c.due(c.x.count(3), 1);
  }

  @Says(promise = 5, value = "PRICE (what 0), SOUND (1), SMELL (2), KNOT (3) of a GOOD")
  static void oneGoodAloneIsMended(Case c) {
    c.x.mend(2, 1, 3);
    for (int g = 0; g < 6; g++) {
      c.due(c.x.of(g, 0), 10 * g);
      for (int what = 1; what <= 3; what++) c.due(c.x.of(g, what), g == 2 && what == 1 ? 3 : 0);
    }
  }

  @Says(promise = 6, value = "of a SACK 9 SOLD, 10 OPEN")
  static void soldAndOpenOfASack(Case c) {
    c.market(3, 2);
    c.x.sell(1, 1);
    c.x.sell(2, 0);
    c.x.open(2);
    int[] sold = {-1, 1, 0}, open = {0, 0, 1};
    for (int s = 0; s < 3; s++) {
      c.due(c.x.of(s, 9), sold[s]);
      c.due(c.x.of(s, 10), open[s]);
    }
    for (int none : new int[] {3, -1, Case.LEAST, Case.MOST}) {
      c.due(c.x.of(none, 9), Case.VOID);
      c.due(c.x.of(none, 10), Case.VOID);
    }
  }

  @Says(promise = 6, value = "VOID: BAD.")
  static void whatIsNone(Case c) {
    c.market(1, 1);
    for (int what : new int[] {-1, 11, 12, Case.LEAST, Case.MOST}) c.refused(Case.VOID, () -> c.x.of(0, what));
  }
}
