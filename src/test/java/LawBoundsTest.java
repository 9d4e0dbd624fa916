/** The boundaries that the document names for promises 7 to 9: the tape, the law, what a good is worth by it. */
final class LawBoundsTest {
  private static final String SIX = "At most 6 of ( ! - ahead of an O are open at once.";
  private static final String FAULT = "FAULT: the place (from 0) of the first byte with which no TEXT goes on";

  public static void main(String[] args) throws Exception {
    Bounds.run(LawBoundsTest.class, 7, 9);
  }

  private static String repeated(String text, int times) {
    StringBuilder b = new StringBuilder();
    for (int k = 0; k < times; k++) b.append(text);
    return b.toString();
  }

  /** A law that is taken, and what it makes GOOD 3 worth to BUYER 0, who wants it, of SACK 0. */
  private static void value(Case c, String text, int due) {
    if (c.x.count(0) == 0) c.x.sack(0);
    if (c.x.count(1) == 0) c.x.buyer(99, 3);
    c.due(c.law(text), 1);
    c.due(c.x.worthOf(0, 3), due);
    c.due(c.x.count(2), 0);
  }

  private static void fault(Case c, String text, int place) {
    c.due(c.law(text), -100 - place);
    c.due(c.x.count(2), 0);
  }

  // Promise 7

  @Says(promise = 7, value = "A byte (0 .. 255)")
  static void bytesAtTheEnds(Case c) {
    c.due(c.x.feed(0), 1);
    c.due(c.x.feed(255), 2);
    c.due(c.x.count(2), 2);
  }

  @Says(promise = 7, value = "A byte (0 .. 255)")
  static void bytesBeyondTheEnds(Case c) {
    c.x.feed('p');
    for (int none : new int[] {-1, 256, Case.LEAST, Case.MOST}) c.refused(Case.BAD, () -> c.x.feed(none));
    c.due(c.x.count(2), 1);
    c.due(c.x.law(), 1);
  }

  @Says(promise = 7, value = "BAD, FULL (120).")
  static void the120thByteAndThe121st(Case c) {
    for (int k = 1; k <= 120; k++) c.due(c.x.feed(k % 2 == 1 ? '0' : '+'), k);
    c.refused(Case.FULL, () -> c.x.feed('7'));
    c.due(c.x.count(2), 120);
    c.due(c.x.law(), -220);
  }

  @Says(promise = 7, value = "BAD, FULL (120).")
  static void aBadByteToAFullTapeIsBad(Case c) {
    for (int k = 1; k <= 120; k++) c.x.feed('p');
    c.refused(Case.BAD, () -> c.x.feed(256));
    c.refused(Case.BAD, () -> c.x.feed(-1));
  }

  @Says(promise = 7, value = "how many it has")
  static void aTapeThatWasFullTakesBytesAgain(Case c) {
    for (int k = 1; k <= 121; k++) c.x.feed('p');
    c.x.law();
    c.due(c.x.count(2), 0);
    c.due(c.x.feed('p'), 1);
    c.due(c.x.law(), 1);
  }

  // Promise 8: how long

  @Says(promise = 8, value = "LINES, one or more")
  static void anEmptyTape(Case c) {
    fault(c, "", 0);
    fault(c, "", 0);
  }

  @Says(promise = 8, value = "LINES, one or more")
  static void oneLineOfOneByte(Case c) {
    value(c, "p", 30);
  }

  @Says(promise = 8, value = "LINES, one or more, parted by ;")
  static void asManyLinesAsATapeHolds(Case c) {
    value(c, repeated("0?1;", 29) + "0?1", 0);
    value(c, repeated("0?1;", 29) + "77", 77);
    value(c, "9" + repeated(";p", 59), 9);
  }

  @Says(promise = 8, value = "a TEXT by THE TAPE (at most 120 bytes)")
  static void aTextOf120Bytes(Case c) {
    value(c, "10" + repeated("+1", 59), 69);
    value(c, repeated("1+", 59) + "!0", 60);
    value(c, "-9" + repeated("+8", 59), 463);
    value(c, "9999" + repeated("/1", 58), 999);
  }

  @Says(promise = 8, value = "the length, if it ends too early")
  static void whatEndsTooEarly(Case c) {
    for (String text : new String[] {"(", "!", "-", "p+", "p*", "p<", "p&", "p|", "p?", "p;", "(p", "((p)", "(p+", "!(p", "p?w;",
      "1?2;3?", "p%", "p/", "p-", "p=", "p>", "((((((", "!!!!!!", "------"}) {
      fault(c, text, text.length());
    }
  }

  @Says(promise = 8, value = "the length, if it ends too early")
  static void aFullTapeThatEndsTooEarly(Case c) {
    fault(c, repeated("p+", 60), 120);
    fault(c, repeated("p;", 60), 120);
    fault(c, "(" + repeated("p+", 59) + "p", 120);
    fault(c, "0000" + repeated("|0000", 23) + "|", 120);
  }

  @Says(promise = 8, value = FAULT)
  static void theFirstByte(Case c) {
    for (String text : new String[] {";p", "?p", ")", "+1", "*", "/", "%", "<", "=", ">", "&", "|", " p", "q", "x", "P", "W", "A",
      ",", ".", "[p]", "\n", "~1"}) {
      fault(c, text, 0);
    }
  }

  @Says(promise = 8, value = FAULT)
  static void theLastByteOfAFullTape(Case c) {
    fault(c, repeated("p+", 59) + "p(", 119);
    fault(c, repeated("p+", 59) + "p)", 119);
    fault(c, repeated("p+", 59) + "q+", 118);
  }

  @Says(promise = 8, value = FAULT)
  static void theFirstOfSeveralFaults(Case c) {
    fault(c, "p+q+(x", 2);
    fault(c, "(p;w)p", 2);
    fault(c, "12345;q", 4);
    fault(c, "p?w?a?", 3);
  }

  @Says(promise = 8, value = FAULT)
  static void bytesThatNoTextHas(Case c) {
    String signs = "0123456789pwasgb()!-+*/%<=>&|?;";
    for (int letter = 0; letter <= 255; letter++) {
      if (signs.indexOf((char) letter) >= 0) continue;
      c.x.feed('p');
      c.x.feed(letter);
      c.due(c.x.law(), -101);
    }
  }

  @Says(promise = 8, value = FAULT)
  static void byte0AheadAndAtTheEnd(Case c) {
    c.x.feed(0);
    c.due(c.x.law(), -100);
    c.x.feed('p');
    c.x.feed(0);
    c.due(c.x.law(), -101);
    c.x.feed('p');
    c.x.feed('+');
    c.x.feed(0);
    c.due(c.x.law(), -102);
  }

  @Says(promise = 8, value = "No blanks.")
  static void blanks(Case c) {
    fault(c, " p", 0);
    fault(c, "p ", 1);
    fault(c, "p +1", 1);
    fault(c, "p+ 1", 2);
    fault(c, "p;\nw", 2);
    fault(c, "p;\tw", 2);
  }

  @Says(promise = 8, value = "THE TAPE is empty then.")
  static void theTapeIsEmptyBehindAFault(Case c) {
    fault(c, "p+", 2);
    c.due(c.x.feed('9'), 1);
    c.due(c.x.law(), 1);
  }

  @Says(promise = 8, value = "What is answered so changes nothing.")
  static void theLawStaysBehindAFault(Case c) {
    c.market(1, 1);
    fault(c, "7+", 2);
    c.due(c.x.worthOf(0, 5), 50);
    c.due(c.law("7"), 1);
    fault(c, "", 0);
    c.due(c.x.worthOf(0, 5), 7);
    fault(c, "8;9?", 4);
    c.due(c.x.worthOf(0, 5), 7);
  }

  // Promise 8: lines

  @Says(promise = 8, value = "LINE: E, or E ? E (what counts if the first is not 0)")
  static void aThirdE(Case c) {
    fault(c, "1?2?3", 3);
    fault(c, "(1?2)", 2);
    fault(c, "(1;2)", 2);
  }

  @Says(promise = 8, value = "The first LINE without a first E, or whose first E is not 0, counts; none: 0.")
  static void noLineCounts(Case c) {
    value(c, "0?7", 0);
    value(c, "0?7;1-1?8", 0);
  }

  @Says(promise = 8, value = "The first LINE without a first E, or whose first E is not 0, counts; none: 0.")
  static void theFirstLineThatCounts(Case c) {
    value(c, "7;8", 7);
    value(c, "0;8", 0);
    value(c, "1?7;8", 7);
    value(c, "0?7;8", 8);
    value(c, "0?7;8;9", 8);
    value(c, "0?7;0?8;9", 9);
    value(c, "0?7;2?8;9", 8);
    value(c, "0-5?7;8", 7);
    value(c, "1?0;8", 0);
  }

  // Promise 8: numbers and names

  @Says(promise = 8, value = "a number (1 to 4 digits)")
  static void numbersOfOneAndOfFourDigits(Case c) {
    value(c, "0", 0);
    value(c, "9", 9);
    value(c, "0000", 0);
    value(c, "0009", 9);
    value(c, "0999", 999);
    value(c, "9999/11", 909);
  }

  @Says(promise = 8, value = "a number (1 to 4 digits)")
  static void aNumberOfFiveDigits(Case c) {
    fault(c, "10000", 4);
    fault(c, "00000", 4);
    fault(c, "1+00001", 6);
    fault(c, "123456789", 4);
  }

  @Says(promise = 8, value = "a NAME")
  static void twoOperandsWithoutASign(Case c) {
    fault(c, "pw", 1);
    fault(c, "1p", 1);
    fault(c, "p1", 1);
    fault(c, "p(1)", 1);
    fault(c, "(1)(1)", 3);
    fault(c, "(1)p", 3);
    fault(c, "p!w", 1);
  }

  @Says(promise = 8, value = "( E )")
  static void anEmptyPairAndOneTooMany(Case c) {
    fault(c, "()", 1);
    fault(c, "(p))", 3);
    fault(c, "p)", 1);
    fault(c, "(p))+1", 3);
  }

  @Says(promise = 8, value = "B = S, or S < S, S = S, S > S.")
  static void twoComparisons(Case c) {
    fault(c, "1<2<3", 3);
    fault(c, "1=1=1", 3);
    fault(c, "1>2>3", 3);
    fault(c, "1<2>3", 3);
    value(c, "(1<2)<3", 1);
    value(c, "1<2&2<3|3<4", 1);
  }

  @Says(promise = 8, value = "S = P { + P, - P }. P = O { * O, / O, % O }.")
  static void twoSignsInARow(Case c) {
    fault(c, "1++1", 2);
    fault(c, "1**1", 2);
    fault(c, "1//1", 2);
    fault(c, "1+*1", 2);
    fault(c, "1&&1", 2);
    fault(c, "1||1", 2);
    fault(c, "1==1", 2);
    fault(c, "1<=1", 2);
    value(c, "9--1", 10);
    value(c, "9*-1+10", 1);
    value(c, "9+!0", 10);
  }

  // Promise 8: six that are open at once

  @Says(promise = 8, value = SIX)
  static void sixPairs(Case c) {
    value(c, "((((((5))))))", 5);
    fault(c, "(((((((5)))))))", 6);
  }

  @Says(promise = 8, value = SIX)
  static void sixNots(Case c) {
    value(c, "!!!!!!5", 1);
    fault(c, "!!!!!!!5", 6);
  }

  @Says(promise = 8, value = SIX)
  static void sixSigns(Case c) {
    value(c, "------5", 5);
    fault(c, "-------5", 6);
  }

  @Says(promise = 8, value = SIX)
  static void sixOfEachSort(Case c) {
    value(c, "(!-(!-5))", 1);
    value(c, "!(-(!(5)))", 1);
    fault(c, "(-!(-!(5)))", 6);
    fault(c, "(-!(-!-5))", 6);
    fault(c, "(-!(-!!5))", 6);
  }

  /** In each pair, five operands wait for the one that comes last; each level counts as 1. */
  @Says(promise = 8, value = SIX)
  static void sixPairsInWhichAllWait(Case c) {
    value(c, repeated("0|1&1<1+1*(", 6) + "0|1&1<1+1*9" + repeated(")", 6), 1);
    value(c, repeated("0|1&1<1+1*(", 6) + "0|1&1<1+1*0" + repeated(")", 6), 0);
    value(c, "99+2*(" + repeated("0|1&1<1+1*(", 5) + "0|1&1<1+1*9" + repeated(")", 6), 101);
  }

  @Says(promise = 8, value = SIX)
  static void thoseThatAreClosedAreNotOpen(Case c) {
    value(c, "((((((1))))))+((((((2))))))", 3);
    value(c, "!!!!!!1+!!!!!!2", 2);
    value(c, "(((((-1+9)+(2))+(3))))", 13);
    value(c, "(((((-1)-(-2)-(-3)))))", 4);
  }

  @Says(promise = 8, value = SIX)
  static void aMinusBetweenTwoIsNotOpen(Case c) {
    value(c, "((((((9-1-1-1-1-1-1-1))))))", 2);
    value(c, "9-1-1-1-1-1-1-1-1", 1);
    fault(c, "((((((9--1))))))", 8);
  }

  @Says(promise = 8, value = SIX)
  static void sixBehindEachSign(Case c) {
    for (String ahead : new String[] {"1?", "0?1;", "1|", "1&", "1<", "1=", "1>", "1+", "1-", "1*", "1/", "1%", "1;1;"}) {
      c.due(c.law(ahead + "!!!!!!5"), 1);
      fault(c, ahead + "!!!!!!!5", ahead.length() + 6);
    }
  }

  @Says(promise = 8, value = SIX)
  static void sixBehindAPairThatIsOpen(Case c) {
    value(c, "(1+!!!!!5)", 1);
    fault(c, "(1+!!!!!!5)", 8);
    fault(c, "(!!!!!5+!!!!!!5)", 13);
  }

  // Promise 8: values

  @Says(promise = 8, value = "Ints that wrap")
  static void sumsWrap(Case c) {
    // 65536 * 32767 + 65535 is the most that an int holds
    value(c, "256*256*(256*128-1)+256*256-1+1>0", 0);
    value(c, "256*256*(256*128-1)+256*256-1>0", 1);
  }

  @Says(promise = 8, value = "Ints that wrap")
  static void differencesWrap(Case c) {
    value(c, "256*256*256*128-1>0", 1);
    value(c, "256*256*256*128>0", 0);
    value(c, "-1-256*256*256*128>0", 1);
  }

  @Says(promise = 8, value = "Ints that wrap")
  static void productsWrap(Case c) {
    value(c, "256*256*256*256", 0);
    value(c, "256*256*256*256+5", 5);
    value(c, "256*256*256*128<0", 1);
    value(c, "9999*9999*9999", 0);
    value(c, "0-9999*9999*9999", 999);
  }

  @Says(promise = 8, value = "Ints that wrap")
  static void theLeastIntTurned(Case c) {
    value(c, "-(256*256*256*128)", 0);
    value(c, "-(256*256*256*128)<0", 1);
    value(c, "256*256*256*128/-1<0", 1);
    value(c, "256*256*256*128%-1+5", 5);
  }

  @Says(promise = 8, value = "/ and % toward 0")
  static void partsOfNumbersBelow0(Case c) {
    value(c, "100+-7/2", 97);
    value(c, "100+7/-2", 97);
    value(c, "100+-7/-2", 103);
    value(c, "100+-1/2", 100);
    value(c, "100+-7%2", 99);
    value(c, "100+7%-2", 101);
    value(c, "100+-7%-2", 99);
  }

  @Says(promise = 8, value = "by 0 they give 0")
  static void partsBy0(Case c) {
    value(c, "9+7/0", 9);
    value(c, "9+7%0", 9);
    value(c, "9+0/0", 9);
    value(c, "9+0%0", 9);
    value(c, "9+7/(1-1)", 9);
    value(c, "9+-7/0", 9);
    value(c, "9+p%(p-p)", 9);
  }

  @Says(promise = 8, value = "| & < = > ! give 1, 0")
  static void or(Case c) {
    value(c, "(0|0)+2", 2);
    value(c, "(0|5)+2", 3);
    value(c, "(5|0)+2", 3);
    value(c, "(5|7)+2", 3);
    value(c, "(-1|0)+2", 3);
    value(c, "(0|-1)+2", 3);
  }

  @Says(promise = 8, value = "| & < = > ! give 1, 0")
  static void and(Case c) {
    value(c, "(0&0)+2", 2);
    value(c, "(0&5)+2", 2);
    value(c, "(5&0)+2", 2);
    value(c, "(5&2)+2", 3);
    value(c, "(-1&1)+2", 3);
    value(c, "(1&-1)+2", 3);
  }

  @Says(promise = 8, value = "| & < = > ! give 1, 0")
  static void comparisons(Case c) {
    value(c, "(3<4)+2", 3);
    value(c, "(4<4)+2", 2);
    value(c, "(5<4)+2", 2);
    value(c, "(3=4)+2", 2);
    value(c, "(4=4)+2", 3);
    value(c, "(5=4)+2", 2);
    value(c, "(3>4)+2", 2);
    value(c, "(4>4)+2", 2);
    value(c, "(5>4)+2", 3);
    value(c, "(-1<0)+2", 3);
    value(c, "(256*256*256*128<1)+2", 3);
    value(c, "(1>256*256*256*128)+2", 3);
  }

  @Says(promise = 8, value = "| & < = > ! give 1, 0")
  static void not(Case c) {
    value(c, "!0+2", 3);
    value(c, "!1+2", 2);
    value(c, "!5+2", 2);
    value(c, "!-1+2", 2);
    value(c, "!!5+2", 3);
    value(c, "-!0+2", 1);
  }

  @Says(promise = 8, value = "all is worked out")
  static void whatDoesNotCountIsWorkedOutAllTheSame(Case c) {
    value(c, "1|1/0", 1);
    value(c, "0&1/0", 0);
    value(c, "1?5;1/0", 5);
    value(c, "0?1/0;5", 5);
  }

  // Promise 9

  @Says(promise = 9, value = "held within 0 .. 999")
  static void worthIsHeld(Case c) {
    value(c, "0-1", 0);
    value(c, "0", 0);
    value(c, "1", 1);
    value(c, "998", 998);
    value(c, "999", 999);
    value(c, "1000", 999);
    value(c, "9999", 999);
    value(c, "256*256*256*128", 0);
    value(c, "256*256*256*128-1", 999);
  }

  @Says(promise = 9, value = "Without a text: p, and p once more, if w.")
  static void worthWithoutAText(Case c) {
    c.x.sack(0);
    c.x.buyer(0, 5);
    c.x.buyer(0, 0);
    c.x.buyer(0, 6);
    c.x.mend(5, 0, 99);
    c.due(c.x.worthOf(0, 5), 198);
    c.due(c.x.worthOf(0, 4), 40);
    c.due(c.x.worthOf(1, 5), 99);
    c.due(c.x.worthOf(1, 0), 0);
    for (int g = 0; g < 5; g++) c.due(c.x.worthOf(2, g), 10 * g);
    c.due(c.x.worthOf(2, 5), 99);
  }

  @Says(promise = 9, value = "sg: 10 times a SACK, whose ASKED it is, and the GOOD")
  static void theFirstAndTheLastSackAndGood(Case c) {
    c.market(10, 1);
    c.x.mend(0, 5, 1);
    c.x.mend(9, 5, 99);
    c.law("a*10%1000/10*10+g");
    c.due(c.x.worthOf(0, 0), 10);
    c.due(c.x.worthOf(0, 5), 15);
    c.due(c.x.worthOf(0, 90), 990);
    c.due(c.x.worthOf(0, 95), 995);
  }

  @Says(promise = 9, value = "sg: 10 times a SACK, whose ASKED it is, and the GOOD")
  static void goodsThatAreNone(Case c) {
    c.market(10, 6);
    for (int sack = 0; sack < 10; sack++) {
      for (int good = 6; good < 10; good++) c.due(c.x.worthOf(0, 10 * sack + good), Case.BAD);
    }
  }

  @Says(promise = 9, value = "sg: 10 times a SACK, whose ASKED it is, and the GOOD")
  static void sacksThatAreNone(Case c) {
    c.market(2, 6);
    c.due(c.x.worthOf(5, 15), 50);
    for (int none : new int[] {20, 25, 100, 105, -1, -5, -10, -11, -15, 1000, Case.LEAST, Case.MOST}) {
      c.refused(Case.BAD, () -> c.x.worthOf(5, none));
    }
    c.x.sack(0);
    c.due(c.x.worthOf(5, 25), 50);
    c.due(c.x.worthOf(5, 30), Case.BAD);
  }

  @Says(promise = 9, value = "What a GOOD is worth to a BUYER")
  static void buyersThatAreNone(Case c) {
    c.market(10, 2);
    c.due(c.x.worthOf(1, 5), 50);
    for (int none : new int[] {2, 5, 6, -1, Case.LEAST, Case.MOST}) c.refused(Case.BAD, () -> c.x.worthOf(none, 5));
  }

  @Says(promise = 9, value = "s how many SACKS are SOLD")
  static void howManyAreSold(Case c) {
    c.market(10, 6);
    c.law("s*10+1");
    c.due(c.x.worthOf(0, 0), 1);
    for (int k = 9; k >= 0; k--) {
      c.x.sell(k, k % 6);
      c.due(c.x.worthOf(0, 0), 10 * (10 - k) + 1);
    }
  }

  @Says(promise = 9, value = "s how many SACKS are SOLD")
  static void oneSoldOneOpenOfThree(Case c) {
    c.market(3, 1);
    c.law("s*10+1");
    c.x.open(2);
    c.due(c.x.worthOf(0, 0), 1);
    c.x.sell(0, 0);
    c.due(c.x.worthOf(0, 0), 11);
    c.x.open(0);
    c.due(c.x.worthOf(0, 0), 11);
  }

  @Says(promise = 9, value = "g the GOOD, b the BUYER")
  static void theFirstAndTheLastGoodAndBuyer(Case c) {
    c.market(1, 6);
    c.law("g*10+b+100*w");
    c.x.mend(5, 7, 5);
    c.due(c.x.worthOf(0, 0), 0);
    c.due(c.x.worthOf(0, 5), 50);
    c.due(c.x.worthOf(5, 0), 5);
    c.due(c.x.worthOf(5, 5), 155);
  }
}
