import java.util.function.LongSupplier;

/** The boundaries that the document names for promises 22 to 29: deeds, what is led, an image, changes. */
final class DeedsBoundsTest {
  private static final String SELL = "BAD; STATE: it is SOLD or OPEN, or his PURSE is less than ASKED.";
  private static final String GROANS = "groans (SOLD ones, OPENED, worth less to their BUYER by what is IN than ASKED)";
  private static final String IMAGE = "AN IMAGE keeps SOLD, OPEN of SACKS, PURSES, what LED tells.";
  private static final String CHANGES = "CHANGES (all numbers of mend(); telling the same number is none) can be UNDONE, the latest first";
  private static final String AGAIN = "and DONE AGAIN (as long as no other came behind)";
  private static final String NO_DEEDS = "deeds are none (SOLD, OPEN, PURSE by them, too)";

  public static void main(String[] args) throws Exception {
    Bounds.run(DeedsBoundsTest.class, 22, 29);
  }

  private static void led(Case c, int... due) {
    for (int what = 0; what < due.length; what++) c.due(c.x.led(what), due[what]);
  }

  // Promise 22

  @Says(promise = 22, value = SELL)
  static void aPurseAsGreatAsAsked(Case c) {
    c.x.sack(0);
    c.x.buyer(10, 6);
    c.due(c.x.sell(0, 0), 0);
    c.due(c.x.of(0, 6), 0);
    c.due(c.x.of(0, 9), 0);
    led(c, 1, 10, 0, 0, 0);
  }

  @Says(promise = 22, value = SELL)
  static void aPurseOfOneLess(Case c) {
    c.x.sack(0);
    c.x.buyer(9, 6);
    c.refused(Case.STATE, () -> c.x.sell(0, 0));
    led(c, 0, 0, 0, 0, 0);
  }

  @Says(promise = 22, value = SELL)
  static void thePurseIsThatOfTheBuyer(Case c) {
    c.market(2, 2);
    c.x.mend(0, 6, 0);
    c.x.mend(1, 6, 50);
    c.refused(Case.STATE, () -> c.x.sell(0, 0));
    c.refused(Case.STATE, () -> c.x.sell(1, 0));
    c.x.mend(1, 5, 51);
    c.refused(Case.STATE, () -> c.x.sell(1, 1));
    c.due(c.x.sell(0, 1), 40);
  }

  @Says(promise = 22, value = SELL)
  static void forNothingAndForTheMost(Case c) {
    c.market(2, 2);
    c.x.mend(0, 5, 0);
    c.x.mend(1, 5, 99);
    c.x.mend(0, 6, 0);
    c.x.mend(1, 6, 999);
    c.due(c.x.sell(0, 0), 0);
    c.due(c.x.sell(1, 1), 900);
    led(c, 2, 99, 0, 0, 0);
  }

  @Says(promise = 22, value = SELL)
  static void whatIsSoldIsNotSoldAgain(Case c) {
    c.market(2, 2);
    c.x.sell(0, 1);
    c.refused(Case.STATE, () -> c.x.sell(0, 1));
    c.refused(Case.STATE, () -> c.x.sell(0, 0));
    c.due(c.x.of(0, 9), 1);
  }

  @Says(promise = 22, value = SELL)
  static void whatIsOpenIsNotSold(Case c) {
    c.market(2, 1);
    c.x.open(0);
    c.refused(Case.STATE, () -> c.x.sell(0, 0));
    c.x.dusk();
    c.refused(Case.STATE, () -> c.x.sell(1, 0));
  }

  @Says(promise = 22, value = SELL)
  static void theLastSackToTheLastBuyer(Case c) {
    c.market(10, 6);
    c.due(c.x.sell(9, 5), 90);
    c.due(c.x.of(9, 9), 5);
    c.due(c.x.of(5, 6), 90);
    for (int s = 0; s < 9; s++) c.due(c.x.of(s, 9), -1);
    for (int b = 0; b < 5; b++) c.due(c.x.of(b, 6), 100);
  }

  @Says(promise = 22, value = SELL)
  static void sellingWhatIsNone(Case c) {
    c.market(2, 3);
    c.x.open(0);
    for (int none : new int[] {-1, 2, 9, 10, Case.LEAST, Case.MOST}) c.refused(Case.BAD, () -> c.x.sell(none, 2));
    for (int none : new int[] {-1, 3, 5, 6, Case.LEAST, Case.MOST}) {
      c.refused(Case.BAD, () -> c.x.sell(1, none));
      c.refused(Case.BAD, () -> c.x.sell(0, none));
    }
  }

  // Promise 23

  @Says(promise = 23, value = "A SACK is OPENED: what is IN. BAD; STATE: it is OPEN.")
  static void theFirstAndTheLastSackAreOpened(Case c) {
    c.market(10, 0);
    c.due(c.x.open(0), 0);
    c.due(c.x.open(9), 3);
    for (int s = 0; s < 10; s++) c.due(c.x.of(s, 10), s == 0 || s == 9 ? 1 : 0);
    led(c, 0, 0, 2, 0, 0);
  }

  @Says(promise = 23, value = "A SACK is OPENED: what is IN. BAD; STATE: it is OPEN.")
  static void whatIsOpenIsNotOpenedAgain(Case c) {
    c.market(1, 1);
    c.x.open(0);
    c.refused(Case.STATE, () -> c.x.open(0));
    led(c, 0, 0, 1, 0, 0);
  }

  @Says(promise = 23, value = "A SACK is OPENED: what is IN. BAD; STATE: it is OPEN.")
  static void openingWhatIsNone(Case c) {
    c.market(2, 6);
    for (int none : new int[] {-1, 2, 5, 9, 10, Case.LEAST, Case.MOST}) c.refused(Case.BAD, () -> c.x.open(none));
  }

  @Says(promise = 23, value = GROANS)
  static void whatIsNotSoldDoesNotGroan(Case c) {
    c.market(1, 1);
    c.x.mend(0, 5, 99);
    c.x.open(0);
    led(c, 0, 0, 1, 0, 0);
  }

  @Says(promise = 23, value = GROANS)
  static void worthAsAskedDoesNotGroan(Case c) {
    c.market(3, 1);
    for (int s = 0; s < 3; s++) {
      c.x.mend(s, 4, 2);
      c.x.mend(s, 5, 19 + s);
      c.x.sell(s, 0);
    }
    c.x.open(0);
    led(c, 3, 60, 1, 0, 0);
    c.x.open(1);
    led(c, 3, 60, 2, 0, 0);
    c.x.open(2);
    led(c, 3, 60, 3, 1, 0);
  }

  @Says(promise = 23, value = GROANS)
  static void toTheirBuyer(Case c) {
    c.market(2, 2);
    c.x.mend(1, 7, 1);
    c.x.mend(0, 4, 1);
    c.x.mend(0, 5, 15);
    c.x.mend(1, 5, 15);
    c.x.sell(0, 1);
    c.x.sell(1, 0);
    c.x.open(0);
    c.due(c.x.led(3), 0);
    c.x.open(1);
    c.due(c.x.led(3), 1);
  }

  // Promise 24

  @Says(promise = 24, value = "at dusk all are OPENED")
  static void duskOverNothing(Case c) {
    c.due(c.x.dusk(), 0);
    c.due(c.x.dusk(), 0);
    led(c, 0, 0, 0, 0, 2);
  }

  @Says(promise = 24, value = "at dusk all are OPENED")
  static void duskOverTen(Case c) {
    c.market(10, 1);
    c.due(c.x.dusk(), 0);
    for (int s = 0; s < 10; s++) c.due(c.x.of(s, 10), 1);
    led(c, 0, 0, 10, 0, 1);
  }

  @Says(promise = 24, value = "at dusk all are OPENED")
  static void duskOverWhatIsOpen(Case c) {
    c.market(3, 1);
    c.x.sell(0, 0);
    c.x.open(0);
    c.x.open(2);
    c.due(c.x.dusk(), 0);
    led(c, 1, 10, 3, 1, 1);
    c.due(c.x.dusk(), 0);
    led(c, 1, 10, 3, 1, 2);
  }

  @Says(promise = 24, value = "At dusk all are OPENED: how many groans.")
  static void tenGroans(Case c) {
    c.market(10, 1);
    c.law("9");
    for (int s = 0; s < 10; s++) c.x.sell(s, 0);
    c.due(c.x.dusk(), 10);
    led(c, 10, 100, 10, 10, 1);
  }

  // Promise 25

  @Says(promise = 25, value = "LED: SOLD (what 0), paid (1), OPENED (2), groans (3), dusks (4). BAD.")
  static void whatIsNotLed(Case c) {
    for (int none : new int[] {-1, 5, 6, Case.LEAST, Case.MOST}) c.refused(Case.BAD, () -> c.x.led(none));
  }

  @Says(promise = 25, value = "LED: SOLD (what 0), paid (1), OPENED (2), groans (3), dusks (4). BAD.")
  static void eachLineByItself(Case c) {
    c.market(10, 6);
    for (int s = 0; s < 10; s++) c.x.mend(s, 5, 99);
    led(c, 0, 0, 0, 0, 0);
    c.x.sell(3, 2);
    led(c, 1, 99, 0, 0, 0);
    c.x.sell(9, 5);
    led(c, 2, 198, 0, 0, 0);
    c.x.open(0);
    led(c, 2, 198, 1, 0, 0);
    c.x.open(9);
    led(c, 2, 198, 2, 1, 0);
    c.x.dusk();
    led(c, 2, 198, 10, 2, 1);
  }

  @Says(promise = 25, value = "What is answered so changes nothing.")
  static void refusedDeedsAreNotLed(Case c) {
    c.market(1, 1);
    c.x.mend(0, 6, 9);
    LongSupplier[] deeds = {() -> c.x.sell(0, 0), () -> c.x.sell(1, 0), () -> c.x.open(1), () -> c.x.back()};
    for (LongSupplier deed : deeds) deed.getAsLong();
    led(c, 0, 0, 0, 0, 0);
  }

  // Promises 26 and 27

  @Says(promise = 27, value = "STATE: there is none.")
  static void noImage(Case c) {
    c.market(2, 1);
    c.x.sell(0, 0);
    c.x.open(1);
    c.refused(Case.STATE, () -> c.x.back());
    led(c, 1, 10, 1, 0, 0);
  }

  @Says(promise = 26, value = "AN IMAGE is kept: SOLD.")
  static void anImageOfNothing(Case c) {
    c.due(c.x.image(), 0);
    c.market(2, 2);
    c.x.sell(0, 1);
    c.x.open(1);
    c.x.dusk();
    c.due(c.x.back(), 0);
    c.due(c.x.count(0), 2);
    c.due(c.x.count(1), 2);
    c.due(c.x.of(0, 9), 1);
    c.due(c.x.of(0, 10), 1);
    c.due(c.x.of(1, 10), 1);
    c.due(c.x.of(1, 6), 90);
    led(c, 0, 0, 0, 0, 0);
  }

  @Says(promise = 26, value = "AN IMAGE is kept: SOLD.")
  static void anImageTellsWhatIsSold(Case c) {
    c.market(10, 6);
    for (int s = 0; s < 10; s++) {
      c.due(c.x.image(), s);
      c.x.sell(s, s % 6);
    }
    c.due(c.x.image(), 10);
  }

  @Says(promise = 26, value = IMAGE)
  static void theLaterImageAlone(Case c) {
    c.market(3, 1);
    c.x.image();
    c.x.sell(0, 0);
    c.x.open(1);
    c.due(c.x.image(), 1);
    c.x.dusk();
    c.due(c.x.back(), 1);
    c.due(c.x.of(0, 9), 0);
    c.due(c.x.of(1, 10), 1);
    c.due(c.x.of(2, 10), 0);
    led(c, 1, 10, 1, 0, 0);
  }

  @Says(promise = 27, value = IMAGE)
  static void allThatLedTells(Case c) {
    c.market(4, 1);
    c.law("9");
    c.x.sell(0, 0);
    c.x.dusk();
    c.x.dusk();
    c.x.sack(0);
    c.x.sell(4, 0);
    c.x.image();
    led(c, 2, 20, 4, 1, 2);
    c.x.dusk();
    c.x.dusk();
    led(c, 2, 20, 5, 2, 4);
    c.due(c.x.back(), 2);
    led(c, 2, 20, 4, 1, 2);
  }

  @Says(promise = 27, value = IMAGE)
  static void tenSacksAndSixPurses(Case c) {
    c.market(10, 6);
    c.x.sell(9, 5);
    c.x.open(8);
    c.x.image();
    for (int s = 0; s < 9; s++) c.x.sell(s, s % 6);
    c.x.dusk();
    for (int b = 0; b < 6; b++) c.x.mend(b, 6, b);
    c.due(c.x.back(), 1);
    for (int s = 0; s < 10; s++) {
      c.due(c.x.of(s, 9), s == 9 ? 5 : -1);
      c.due(c.x.of(s, 10), s == 8 ? 1 : 0);
    }
    for (int b = 0; b < 6; b++) c.due(c.x.of(b, 6), b == 5 ? 90 : 100);
  }

  @Says(promise = 27, value = "It is laid back (SACKS, BUYERS that came since as they are): SOLD.")
  static void thoseThatCameSince(Case c) {
    c.market(1, 1);
    c.x.image();
    c.x.sack(3);
    c.x.buyer(200, 5);
    c.x.sell(1, 1);
    c.x.open(1);
    c.x.sell(0, 1);
    c.due(c.x.back(), 0);
    c.due(c.x.of(0, 9), -1);
    c.due(c.x.of(1, 9), 1);
    c.due(c.x.of(1, 10), 1);
    c.due(c.x.of(0, 6), 100);
    c.due(c.x.of(1, 6), 180);
    c.due(c.x.of(1, 4), 3);
    c.due(c.x.of(1, 7), 5);
    led(c, 0, 0, 0, 0, 0);
  }

  @Says(promise = 27, value = IMAGE)
  static void whatAnImageDoesNotKeep(Case c) {
    c.market(2, 1);
    c.x.image();
    c.x.mend(0, 4, 5);
    c.x.mend(0, 5, 55);
    c.x.mend(0, 7, 3);
    c.x.mend(0, 8, 4);
    c.x.mend(0, 0, 77);
    c.law("8");
    c.x.feed('p');
    c.x.back();
    c.due(c.x.of(0, 4), 5);
    c.due(c.x.of(0, 5), 55);
    c.due(c.x.of(0, 7), 3);
    c.due(c.x.of(0, 8), 4);
    c.due(c.x.of(0, 0), 77);
    c.due(c.x.worthOf(0, 0), 8);
    c.due(c.x.count(2), 1);
    c.due(c.x.count(3), 5);
  }

  @Says(promise = 27, value = "It is laid back (SACKS, BUYERS that came since as they are): SOLD.")
  static void laidBackTwice(Case c) {
    c.market(2, 1);
    c.x.image();
    for (int k = 0; k < 2; k++) {
      c.due(c.x.sell(1, 0), 90);
      c.due(c.x.open(1), 1);
      c.due(c.x.back(), 0);
      c.due(c.x.of(1, 9), -1);
      c.due(c.x.of(1, 10), 0);
      c.due(c.x.of(0, 6), 100);
    }
  }

  // Promises 28 and 29

  @Says(promise = 28, value = "UNDONE: how many may still be. STATE: none.")
  static void nothingToUndo(Case c) {
    c.market(2, 1);
    c.x.sell(0, 0);
    c.x.dusk();
    c.refused(Case.STATE, () -> c.x.undo());
    c.x.mend(0, 0, 5);
    c.due(c.x.undo(), 0);
    c.refused(Case.STATE, () -> c.x.undo());
    c.due(c.x.of(0, 0), 0);
  }

  @Says(promise = 29, value = "DONE AGAIN: how many may still be. STATE: none.")
  static void nothingToRedo(Case c) {
    c.refused(Case.STATE, () -> c.x.redo());
    c.x.mend(0, 0, 5);
    c.refused(Case.STATE, () -> c.x.redo());
    c.x.undo();
    c.due(c.x.redo(), 0);
    c.refused(Case.STATE, () -> c.x.redo());
    c.due(c.x.of(0, 0), 5);
  }

  @Says(promise = 28, value = CHANGES)
  static void eachNumberOfMend(Case c) {
    c.market(2, 2);
    int[] first = {10, 0, 0, 0, 1, 10, 100, 6, 9};
    for (int what = 0; what <= 8; what++) c.due(c.x.mend(1, what, 2), first[what]);
    for (int what = 8; what >= 0; what--) {
      c.due(c.x.of(1, what), 2);
      c.due(c.x.undo(), what);
      c.due(c.x.of(1, what), first[what]);
    }
    for (int what = 0; what <= 8; what++) {
      c.due(c.x.redo(), 8 - what);
      c.due(c.x.of(1, what), 2);
    }
  }

  @Says(promise = 28, value = CHANGES)
  static void theSameNumberIsNoChange(Case c) {
    c.market(1, 1);
    int[] first = {0, 0, 0, 0, 0, 10, 100, 6, 9};
    for (int what = 0; what <= 8; what++) c.due(c.x.mend(0, what, first[what]), first[what]);
    c.due(c.x.count(3), 0);
    c.due(c.x.undo(), Case.STATE);
  }

  @Says(promise = 28, value = "40 at most are kept")
  static void fortyChanges(Case c) {
    for (int k = 1; k <= 40; k++) {
      c.x.mend(0, 0, k);
      c.due(c.x.count(3), k);
    }
    for (int k = 39; k >= 0; k--) {
      c.due(c.x.undo(), k);
      c.due(c.x.of(0, 0), k);
    }
    c.due(c.x.undo(), Case.STATE);
    for (int k = 1; k <= 40; k++) {
      c.due(c.x.redo(), 40 - k);
      c.due(c.x.of(0, 0), k);
    }
    c.due(c.x.redo(), Case.STATE);
  }

  @Says(promise = 28, value = "40 at most are kept")
  static void theFortyFirstChange(Case c) {
    for (int k = 1; k <= 41; k++) c.x.mend(0, 0, k);
    c.due(c.x.count(3), 40);
    for (int k = 39; k >= 0; k--) {
      c.due(c.x.undo(), k);
      c.due(c.x.of(0, 0), k + 1);
    }
    c.due(c.x.undo(), Case.STATE);
    for (int k = 2; k <= 41; k++) {
      c.due(c.x.redo(), 41 - k);
      c.due(c.x.of(0, 0), k);
    }
  }

  @Says(promise = 28, value = "40 at most are kept")
  static void fortyOneChangesOfOthersEach(Case c) {
    c.market(10, 6);
    // PRICE, SOUND, SMELL, KNOT of six, ASKED of ten, PURSE of six: forty; and an EAR
    for (int k = 0; k < 24; k++) c.x.mend(k % 6, k / 6, k / 6 == 0 ? 90 + k : 1 + k % 3);
    for (int s = 0; s < 10; s++) c.x.mend(s, 5, 50 + s);
    for (int b = 0; b < 6; b++) c.x.mend(b, 6, 700 + b);
    c.due(c.x.mend(3, 8, 2), 9);
    c.due(c.x.count(3), 40);
    for (int k = 39; k >= 0; k--) c.due(c.x.undo(), k);
    for (int g = 0; g < 6; g++) {
      c.due(c.x.of(g, 0), g == 0 ? 90 : 10 * g);
      for (int what = 1; what <= 3; what++) c.due(c.x.of(g, what), 0);
    }
    for (int s = 0; s < 10; s++) c.due(c.x.of(s, 5), 10);
    for (int b = 0; b < 6; b++) c.due(c.x.of(b, 6), 100);
    c.due(c.x.of(3, 8), 9);
    for (int k = 39; k >= 0; k--) c.due(c.x.redo(), k);
    for (int k = 0; k < 24; k++) c.due(c.x.of(k % 6, k / 6), k / 6 == 0 ? 90 + k : 1 + k % 3);
    for (int s = 0; s < 10; s++) c.due(c.x.of(s, 5), 50 + s);
    for (int b = 0; b < 6; b++) c.due(c.x.of(b, 6), 700 + b);
    c.due(c.x.of(3, 8), 2);
  }

  @Says(promise = 29, value = AGAIN)
  static void anotherChangeCameBehind(Case c) {
    c.x.mend(0, 0, 1);
    c.x.mend(0, 0, 2);
    c.x.mend(0, 0, 3);
    c.x.undo();
    c.x.undo();
    c.x.mend(1, 0, 7);
    c.refused(Case.STATE, () -> c.x.redo());
    c.due(c.x.count(3), 2);
    c.due(c.x.undo(), 1);
    c.due(c.x.of(1, 0), 10);
    c.due(c.x.redo(), 0);
    c.due(c.x.of(1, 0), 7);
    c.due(c.x.of(0, 0), 1);
  }

  @Says(promise = 29, value = AGAIN)
  static void whatDoesNotComeBehind(Case c) {
    c.market(2, 1);
    c.x.mend(0, 0, 1);
    c.x.mend(0, 0, 2);
    c.x.undo();
    c.x.undo();
    c.x.mend(0, 0, 0);
    c.x.mend(0, 0, 100);
    c.x.mend(6, 0, 5);
    c.x.mend(0, 9, 1);
    c.x.undo();
    c.due(c.x.redo(), 1);
    c.due(c.x.redo(), 0);
    c.due(c.x.of(0, 0), 2);
  }

  @Says(promise = 29, value = NO_DEEDS)
  static void deedsDoNotComeBehind(Case c) {
    c.market(3, 2);
    c.x.mend(2, 5, 20);
    c.x.undo();
    c.x.sell(0, 0);
    c.x.open(1);
    c.x.image();
    c.x.dusk();
    c.x.back();
    c.x.sack(0);
    c.x.buyer(1, 1);
    c.law("5");
    c.x.row(0, 0, 3);
    c.x.body(0);
    c.due(c.x.redo(), 0);
    c.due(c.x.of(2, 5), 20);
  }

  @Says(promise = 28, value = NO_DEEDS)
  static void deedsAreNotUndone(Case c) {
    c.market(2, 1);
    c.x.mend(1, 5, 30);
    c.x.sell(0, 0);
    c.x.open(1);
    c.due(c.x.count(3), 1);
    c.due(c.x.undo(), 0);
    c.due(c.x.of(0, 9), 0);
    c.due(c.x.of(1, 10), 1);
    c.due(c.x.of(0, 6), 90);
    c.due(c.x.of(1, 5), 10);
    led(c, 1, 10, 1, 0, 0);
  }

  @Says(promise = 28, value = NO_DEEDS)
  static void aChangeOfAPurseAheadOfADeed(Case c) {
    c.market(1, 1);
    c.x.mend(0, 6, 500);
    c.x.sell(0, 0);
    c.due(c.x.of(0, 6), 490);
    c.due(c.x.undo(), 0);
    c.due(c.x.of(0, 6), 100);
    c.due(c.x.redo(), 0);
    c.due(c.x.of(0, 6), 500);
  }
}
