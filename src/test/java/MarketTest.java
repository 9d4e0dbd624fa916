/** Promises 1 to 9: a new object, sacks, buyers, their numbers, the law. */
final class MarketTest {
  private static final Check check = new Check();

  public static void main(String[] args) {
    aNewObject();
    sack();
    sacksFromARow();
    buyer();
    mendAndOf();
    feed();
    lawFaults();
    lawValues();
    worthOf();
    check.end();
  }

  // Promise 1
  private static void aNewObject() {
    BlindSacks x = new BlindSacks();
    for (int k = 0; k < 6; k++) check.due("1 count(" + k + ")", x.count(k), 0);
    for (int k = 0; k < 5; k++) check.due("1 led(" + k + ")", x.led(k), 0);
    for (int g = 0; g < 6; g++) {
      check.due("1 PRICE of " + g, x.of(g, 0), 10 * g);
      for (int what = 1; what <= 3; what++) check.due("1 of(" + g + ", " + what + ")", x.of(g, what), 0);
    }
    for (int shelf = 0; shelf < 6; shelf++) check.due("1 a shelf holds nothing", x.put(shelf, 0, 0), -11);
    check.due("1 no image", x.back(), -5);
    check.due("1 no trace", x.trace(0), -1);
    x.sack(1);
    check.due("1 another object has its own memory", new BlindSacks().count(0), 0);
  }

  // Promise 2
  private static void sack() {
    BlindSacks x = new BlindSacks();
    for (int k = 0; k < 10; k++) check.due("2 sack", x.sack(k % 6), k);
    check.due("2 FULL", x.sack(0), -3);
    check.due("2 BAD ahead of FULL", x.sack(6), -1);
    check.due("2 BAD below", x.sack(-1), -1);
    check.due("2 no more came", x.count(0), 10);
    check.due("2 IN", x.of(9, 4), 3);
    check.due("2 ASKED", x.of(9, 5), 10);
    check.due("2 SOLD", x.of(9, 9), -1);
    check.due("2 OPEN", x.of(9, 10), 0);
  }

  // Promise 3
  private static void sacksFromARow() {
    BlindSacks x = new BlindSacks();
    check.due("3 a missing row", x.sacks(0, 0, 1), 0);
    check.due("3 a missing row, a place below 0", x.sacks(0, -1, 1), 0);
    check.due("3 a missing row, the last place", x.sacks(0, Integer.MAX_VALUE, 1), 0);
    check.due("3 BAD ahead of a missing row", x.sacks(0, -1, 0), -1);
    Check.bytes(x, 0, 9, 2, 99, 5, 0, 0, 7, 3);
    check.due("3 from place 1, ends within a two", x.sacks(0, 1, 10), 3);
    check.due("3 IN of the first", x.of(0, 4), 2);
    check.due("3 ASKED of the first", x.of(0, 5), 99);
    check.due("3 ASKED of the third", x.of(2, 5), 7);
    check.due("3 SOLD at first", x.of(2, 9), -1);
    check.due("3 one that is not so", x.sacks(0, 0, 3), 0);
    check.due("3 n alone", x.sacks(0, 1, 1), 1);
    check.due("3 beyond the end", x.sacks(0, 8, 1), 0);
    check.due("3 far beyond the end", x.sacks(0, Integer.MAX_VALUE, 10), 0);
    check.due("3 the last byte alone", x.sacks(0, 7, 1), 0);
    check.due("3 so many came", x.count(0), 4);
    Check.bytes(x, 1, 0, 100, 1, 1);
    check.due("3 ASKED above 99", x.sacks(1, 0, 2), 0);
    Check.bytes(x, 1, 1, 5, 6, 1, 1, 1);
    check.due("3 ends with a GOOD that is none", x.sacks(1, 0, 3), 1);
    Check.bytes(x, 1, 1, 5, 1, -1, 1, 1);
    check.due("3 ends with ASKED below 0", x.sacks(1, 0, 3), 1);
    check.due("3 a shelf that is none", x.sacks(6, 0, 1), -1);
    check.due("3 a shelf below 0", x.sacks(-1, 0, 1), -1);
    check.due("3 n 0", x.sacks(0, 0, 0), -1);
    check.due("3 n 11", x.sacks(0, 0, 11), -1);
    check.due("3 a place below 0", x.sacks(0, -1, 1), 0);
    Check.bytes(x, 1, 1, 5, 1, 6);
    check.due("3 a two ahead of the row", x.sacks(1, -2, 3), 0);
    check.due("3 half a two ahead of the row", x.sacks(1, -1, 3), 0);
    check.due("3 the least place", x.sacks(1, Integer.MIN_VALUE, 10), 0);
    check.due("3 none came from below 0", x.count(0), 6);
    x.row(2, 1, 4);
    check.due("3 shorts", x.sacks(2, 0, 1), -12);
    check.due("3 shorts, a place below 0", x.sacks(2, -1, 1), -12);
    x.body(0);
    x.keep(3, 0);
    check.due("3 a KNOT", x.sacks(3, 0, 1), -12);
    check.due("3 BAD ahead of -12", x.sacks(3, 0, 11), -1);
    x.row(2, 0, 20);
    check.due("3 until SACKS are FULL", x.sacks(2, 0, 10), 4);
    check.due("3 FULL already", x.sacks(2, 0, 10), 0);
    check.due("3 ten in all", x.count(0), 10);
  }

  // Promise 4
  private static void buyer() {
    BlindSacks x = new BlindSacks();
    check.due("4 the least", x.buyer(0, 0), 0);
    check.due("4 the most", x.buyer(999, 6), 1);
    check.due("4 PURSE", x.of(1, 6), 999);
    check.due("4 WANTS", x.of(1, 7), 6);
    check.due("4 EAR", x.of(1, 8), 9);
    for (int k = 2; k < 6; k++) check.due("4 buyer", x.buyer(k, k), k);
    check.due("4 FULL", x.buyer(1, 1), -3);
    check.due("4 BAD purse ahead of FULL", x.buyer(1000, 1), -1);
    check.due("4 BAD purse below", x.buyer(-1, 1), -1);
    check.due("4 BAD wants", x.buyer(1, 7), -1);
    check.due("4 BAD wants below", x.buyer(1, -1), -1);
    check.due("4 six in all", x.count(1), 6);
  }

  // Promises 5 and 6
  private static void mendAndOf() {
    BlindSacks x = new BlindSacks();
    x.sack(1);
    x.buyer(5, 5);
    int[] least = {0, 0, 0, 0, 0, 0, 0, 0, 1}, most = {99, 3, 3, 3, 5, 99, 999, 6, 11}, first = {0, 0, 0, 0, 1, 10, 5, 5, 9};
    int[] beyond = {6, 6, 6, 6, 1, 1, 1, 1, 1};
    for (int what = 0; what <= 8; what++) {
      check.due("6 at first " + what, x.of(0, what), first[what]);
      check.due("5 what it was " + what, x.mend(0, what, most[what]), first[what]);
      check.due("6 the most " + what, x.of(0, what), most[what]);
      check.due("5 above the most " + what, x.mend(0, what, most[what] + 1), -2000000000);
      check.due("5 below the least " + what, x.mend(0, what, least[what] - 1), -2000000000);
      check.due("5 what it was then " + what, x.mend(0, what, least[what]), most[what]);
      check.due("5 no such number " + what, x.mend(beyond[what], what, 1), -2000000000);
      check.due("5 a number below 0 " + what, x.mend(-1, what, 1), -2000000000);
      check.due("6 no such number " + what, x.of(beyond[what], what), -2000000000);
      check.due("6 a number below 0 " + what, x.of(-1, what), -2000000000);
      check.due("6 the least " + what, x.of(0, what), least[what]);
    }
    check.due("5 SOLD cannot be mended", x.mend(0, 9, 0), -2000000000);
    check.due("5 OPEN cannot be mended", x.mend(0, 10, 1), -2000000000);
    check.due("5 what below 0", x.mend(0, -1, 1), -2000000000);
    check.due("6 SOLD", x.of(0, 9), -1);
    check.due("6 OPEN", x.of(0, 10), 0);
    check.due("6 SOLD of no SACK", x.of(1, 9), -2000000000);
    check.due("6 OPEN of no SACK", x.of(1, 10), -2000000000);
    check.due("6 what 11", x.of(0, 11), -2000000000);
    check.due("6 what -1", x.of(0, -1), -2000000000);
  }

  // Promise 7
  private static void feed() {
    BlindSacks x = new BlindSacks();
    check.due("7 above 255", x.feed(256), -1);
    check.due("7 below 0", x.feed(-1), -1);
    check.due("7 0 is a byte", x.feed(0), 1);
    check.due("7 255 is a byte", x.feed(255), 2);
    for (int k = 3; k <= 120; k++) check.due("7 feed", x.feed('p'), k);
    check.due("7 FULL", x.feed('p'), -3);
    check.due("7 BAD ahead of FULL", x.feed(256), -1);
    check.due("7 120 are kept", x.count(2), 120);
    check.due("8 byte 0 goes on with no TEXT", x.law(), -100);
    check.due("8 THE TAPE is empty then", x.count(2), 0);
    check.due("7 it takes bytes again", x.feed('p'), 1);
  }

  private static void fault(String text, int place) {
    BlindSacks x = new BlindSacks();
    check.due("8 law " + text, Check.law(x, text), place < 0 ? 1 : -100 - place);
    check.due("8 THE TAPE is empty behind " + text, x.count(2), 0);
  }

  // Promise 8
  private static void lawFaults() {
    String[] right = {"p", "0", "9999", "p;w", "p?w", "p?w;a?s;g", "p|w&a<s+g*b", "!p", "-p", "--p", "!-!p", "(p)", "((p))",
      "1<2&3<4", "(1<2)<3", "((((((p))))))", "!!!!!!p", "------1", "p---b", "-(-(-(1)))", "((((((p))))))+((((((w))))))",
      "!(!((p+!w)))", "p?((((((p))))))", "(p|w)&(w|p)", "p?w|a;b", "p/0%0", "0000", "1-1", "1*-1"};
    for (String text : right) fault(text, -1);
    fault("", 0);
    fault("p+", 2);
    fault("p;", 2);
    fault("p?", 2);
    fault("(p", 2);
    fault("!", 1);
    fault(";p", 0);
    fault("?p", 0);
    fault("p p", 1);
    fault(" p", 0);
    fault("q", 0);
    fault("P", 0);
    fault("pw", 1);
    fault("1p", 1);
    fault("p1", 1);
    fault("12345", 4);
    fault("+p", 0);
    fault("p**w", 2);
    fault("p!w", 1);
    fault("p&&w", 2);
    fault("p==w", 2);
    fault("1<2<3", 3);
    fault("1<2=3", 3);
    fault("1<2|3<4>5", 7);
    fault("p?w?a", 3);
    fault("(p?w)", 2);
    fault("(p;w)", 2);
    fault("p)", 1);
    fault("(p))", 3);
    fault("()", 1);
    fault("(((((((p", 6);
    fault("!!!!!!!p", 6);
    fault("!-(!-(-p", 6);
    fault("!(!(!(p+!w)))", 8);
    fault("(!p+(!p+(!(!p", 13);
    fault("(!p+(!p+(!(!(p", 12);
    fault("p;;w", 2);
    fault("p" + (char) 233, 1);
    StringBuilder longest = new StringBuilder("1");
    while (longest.length() < 119) longest.append("+1");
    fault(longest.toString(), -1);
    fault(longest + "+", 120);
  }

  private static int valued(String text) {
    BlindSacks x = new BlindSacks();
    x.sack(0);
    x.sack(0);
    x.buyer(99, 6);
    x.buyer(99, 3);
    x.mend(0, 5, 17);
    x.sell(1, 0);
    return Check.law(x, text) == 1 ? x.worthOf(1, 3) : -99;
  }

  private static void value(String text, int due) {
    check.due("8 value of " + text, valued(text), due);
  }

  private static void lawValues() {
    // BUYER 1, who wants GOOD 3 (PRICE 30), SACK 0 (ASKED 17), one SACK sold
    value("p", 30);
    value("w", 1);
    value("a", 17);
    value("s", 1);
    value("g", 3);
    value("b", 1);
    value("2+3*4", 14);
    value("(2+3)*4", 20);
    value("9-3-2", 4);
    value("100/5/2", 10);
    value("17%10%4", 3);
    value("7/2", 3);
    value("10+-7/2", 7);
    value("10+-7%2", 9);
    value("5+5/0", 5);
    value("5+5%0", 5);
    value("-5", 0);
    value("9999", 999);
    value("0-1", 0);
    value("!5", 0);
    value("!0", 1);
    value("5|0", 1);
    value("0|0", 0);
    value("5&7", 1);
    value("5&0", 0);
    value("3<4", 1);
    value("4<4", 0);
    value("4=4", 1);
    value("5>4", 1);
    value("4>4", 0);
    value("3>4", 0);
    value("3=4", 0);
    value("1&5", 1);
    value("5&1", 1);
    value("1|0", 1);
    value("0|5", 1);
    value("(0|1)+1", 2);
    value("1?0|1;7", 1);
    value("0|0?3;7", 7);
    value("1+2<4+5", 1);
    value("1|0&0", 1);
    value("2&1>0", 1);
    value("0?7;8", 8);
    value("1?7;8", 7);
    value("0?7;0?8", 0);
    value("0-1?7;8", 7);
    value("0;8", 0);
    value("0?7;5;1?9", 5);
    value("!p=0", 1);
    value("!(p=0)", 1);
    value("-p+50", 20);
    value("50-p-b", 19);
    // 9999 to the 3rd is 999700029999, that is -1023150545 + 233 * 2 to the 32nd: wrapped below 0
    value("9999*9999*9999", 0);
    value("0-9999*9999*9999", 999);
    // 65536 * 32768 wraps to the least int, and that by -1 is itself, its rest 0
    value("(256*256*256*128)/-1", 0);
    value("5+(256*256*256*128)%-1", 5);
    value("-(256*256*256*128)", 0);
  }

  // Promise 9
  private static void worthOf() {
    BlindSacks x = new BlindSacks();
    check.due("9 no BUYER", x.worthOf(0, 0), -1);
    x.buyer(0, 3);
    check.due("9 no SACK", x.worthOf(0, 0), -1);
    x.sack(0);
    x.mend(3, 0, 99);
    check.due("9 wanted: twice", x.worthOf(0, 3), 198);
    check.due("9 not wanted: once", x.worthOf(0, 4), 40);
    check.due("9 GOOD 6", x.worthOf(0, 6), -1);
    check.due("9 GOOD 9", x.worthOf(0, 9), -1);
    check.due("9 SACK 1", x.worthOf(0, 10), -1);
    check.due("9 sg below 0", x.worthOf(0, -1), -1);
    check.due("9 sg far above", x.worthOf(0, Integer.MAX_VALUE), -1);
    check.due("9 BUYER 1", x.worthOf(1, 0), -1);
    check.due("9 BUYER -1", x.worthOf(-1, 0), -1);
    check.due("9 a law", Check.law(x, "a+g"), 1);
    x.sack(0);
    x.mend(1, 5, 40);
    check.due("9 ASKED of SACK 0", x.worthOf(0, 3), 13);
    check.due("9 ASKED of SACK 1", x.worthOf(0, 13), 43);
    check.due("9 a fault", Check.law(x, "a+"), -102);
    check.due("9 the old law stays", x.worthOf(0, 13), 43);
    check.due("9 another law", Check.law(x, "7"), 1);
    check.due("9 the other law", x.worthOf(0, 13), 7);
    for (int k = 2; k < 10; k++) x.sack(0);
    for (int k = 1; k < 6; k++) x.buyer(0, 6);
    x.mend(9, 5, 77);
    check.due("9 a law of all", Check.law(x, "a*10+b"), 1);
    check.due("9 BUYER 5, SACK 9", x.worthOf(5, 90), 775);
    check.due("9 BUYER 4, SACK 8", x.worthOf(4, 80), 104);
    check.due("9 BUYER 4, SACK 9, GOOD 5", x.worthOf(4, 95), 774);
  }
}
