/** Promises 16 to 21: dealing, groans, stock, telling apart, turns, days. */
final class DealingTest {
  private static final Check check = new Check();
  private static final long NONE = Long.MIN_VALUE;

  public static void main(String[] args) {
    dealt();
    dealtTies();
    groan();
    stock();
    stockOpen();
    stockRefusals();
    tells();
    byTurns();
    byTurnsEdges();
    byTurnsByAsked();
    drawn();
    check.end();
  }

  // Promise 16
  private static void dealt() {
    BlindSacks x = new BlindSacks();
    check.due("16 nobody", x.dealt(-1), 0);
    check.due("16 BUYER 0 of none", x.dealt(0), -1);
    check.due("16 -2", x.dealt(-2), -1);
    x.buyer(0, 6);
    check.due("16 no SACK", x.dealt(0), -2);
    // BUYER 0: 25 for each; BUYER 1 wants GOOD 5: 33 (200 by 6) for each
    x.buyer(0, 5);
    Check.bytes(x, 1, 0, 30, 1, 20, 2, 26);
    x.sacks(1, 0, 3);
    // gains: -5, 5, -1 and 3, 13, 7: 5 + 7 is less than 13 alone
    check.due("16 how much", x.dealt(-1), 13);
    check.due("16 BUYER 0 has none", x.dealt(0), -2);
    check.due("16 BUYER 1 has the cheap one", x.dealt(1), 1);
    x.mend(2, 5, 25);
    // gains: -5, 5, 0 and 3, 13, 8: 13 + 0 = 5 + 8: BUYER 0 has SACK 1 ahead of SACK 2
    check.due("16 as much", x.dealt(-1), 13);
    check.due("16 of like ones the first by BUYERS", x.dealt(0), 1);
    check.due("16 the other has the next", x.dealt(1), 2);
    x.mend(2, 5, 21);
    check.due("16 more for two", x.dealt(-1), 17);
    x.mend(1, 6, 999);
    x.sell(1, 1);
    // gains without SACK 1: -5, 4 and 3, 12: 12 alone is more than 4 and 3
    check.due("16 a SOLD one is not dealt", x.dealt(1), 2);
    check.due("16 BUYER 0 would have less", x.dealt(0), -2);
    check.due("16 12 alone", x.dealt(-1), 12);
    x.open(2);
    check.due("16 nor an OPEN one", x.dealt(0), -2);
    check.due("16 3 alone", x.dealt(-1), 3);
    check.due("16 BUYER 2 of two", x.dealt(2), -1);
    check.due("16 LOOKS are none: ASKED in THE LAW", Check.law(x, "a+b*9"), 1);
    check.due("16 9 for BUYER 1", x.dealt(-1), 9);
    check.due("16 none for BUYER 0", x.dealt(0), -2);
  }

  private static void dealtTies() {
    BlindSacks x = new BlindSacks();
    for (int k = 0; k < 6; k++) x.buyer(0, 6);
    for (int k = 0; k < 6; k++) check.due("16 no SACK", x.dealt(k), -2);
    x = new BlindSacks();
    for (int k = 0; k < 10; k++) x.sack(0);
    for (int k = 0; k < 6; k++) x.buyer(0, 6);
    check.due("16 six times 15", x.dealt(-1), 90);
    x.mend(5, 0, 55);
    check.due("16 155 by 6 is cut", x.dealt(-1), 90);
    x.mend(5, 0, 50);
    for (int k = 0; k < 6; k++) check.due("16 all alike, by turns", x.dealt(k), k);
    for (int k = 0; k < 10; k++) x.mend(k, 5, k < 3 ? 26 : 25);
    check.due("16 nothing gained", x.dealt(-1), 0);
    for (int k = 0; k < 6; k++) check.due("16 none is last", x.dealt(k), k + 3);
    for (int k = 0; k < 10; k++) x.mend(k, 5, k < 8 ? 26 : 25);
    check.due("16 two for six", x.dealt(0), 8);
    check.due("16 the second of two", x.dealt(1), 9);
    check.due("16 none is left", x.dealt(2), -2);
    Check.law(x, "999");
    for (int k = 0; k < 10; k++) x.mend(k, 5, 0);
    check.due("16 the most", x.dealt(-1), 5994);
    check.due("16 the last of six", x.dealt(5), 5);
  }

  // Promise 17
  private static void groan() {
    BlindSacks x = new BlindSacks();
    check.due("17 nothing", x.groan(0, 0), -11);
    check.due("17 BAD ahead of -11", x.groan(0, 3), -1);
    check.due("17 what -1", x.groan(0, -1), -1);
    check.due("17 shelf 6", x.groan(6, 0), -1);
    x.row(0, 2, 4);
    check.due("17 ints", x.groan(0, 0), -12);
    for (int g = 0; g < 4; g++) x.sack(g);
    x.buyer(100, 0);
    Check.bytes(x, 0, 3, 3, 2, 0, 1, 0, 0, 0, 2, 2, 2, 1);
    check.due("17 how many differ", x.groan(0, 0), 3);
    check.due("17 none is SOLD", x.groan(0, 1), 0);
    check.due("17 the one told first", x.groan(0, 2), 2);
    x.sell(2, 0);
    // SACK 2 (ASKED 10) is told thrice: GOOD 0 is worth 0, GOOD 2 20, GOOD 1 10
    check.due("17 worth less than ASKED, as told", x.groan(0, 1), 1);
    x.mend(2, 5, 11);
    check.due("17 two are worth less", x.groan(0, 1), 2);
    x.open(2);
    check.due("17 an OPEN one counts as well", x.groan(0, 1), 2);
    int[][] ends = {{4, 0}, {-1, 0}, {1, 6}, {1, -1}};
    for (int[] end : ends) {
      Check.bytes(x, 0, 0, 0, end[0], end[1], 1, 0);
      check.due("17 it ends", x.groan(0, 0), 0);
      check.due("17 none differs", x.groan(0, 2), -2);
    }
    Check.bytes(x, 0, 1, 0, 2);
    check.due("17 it lacks a half", x.groan(0, 0), 1);
    int[] twelve = new int[24];
    for (int k = 0; k < 24; k += 2) twelve[k] = 1;
    Check.bytes(x, 0, twelve);
    check.due("17 ten at most", x.groan(0, 0), 10);
  }

  // Promise 18
  private static void stock() {
    BlindSacks x = new BlindSacks();
    Check.bytes(x, 0, 0, 0, 0, 0, 0, 0);
    check.due("18 no SACK, no GOOD", x.stock(0, -1), 1);
    for (int k = 0; k < 10; k++) x.sack(k % 6);
    check.due("18 too few", x.stock(0, -1), 0);
    Check.bytes(x, 0, 2, 2, 2, 2, 1, 1);
    check.due("18 10! by 2! four times", x.stock(0, -1), 226800);
    // 9! by 2! three times; 9! by 2! four times
    check.due("18 SACK 3 holds GOOD 0", x.stock(0, 30), 45360);
    check.due("18 SACK 9 holds GOOD 5", x.stock(0, 95), 22680);
    Check.bytes(x, 0, 9, 0, 0, 0, 0, 1);
    check.due("18 ten places for one", x.stock(0, -1), 10);
    check.due("18 one of them", x.stock(0, 5), 1);
    check.due("18 nine of them", x.stock(0, 0), 9);
    check.due("18 none came", x.stock(0, 1), 0);
    x.mend(9, 4, 5);
    x.open(9);
    check.due("18 SACK 9 is OPEN and has it", x.stock(0, 95), 1);
    check.due("18 SACK 9 has no other", x.stock(0, 90), 0);
    check.due("18 SACK 8 has the other", x.stock(0, 80), 1);
    check.due("18 SACK 8 has it not", x.stock(0, 85), 0);
    Check.bytes(x, 0, 9, 0, 0, 0, 0, 2);
    check.due("18 one too many", x.stock(0, -1), 0);
    check.due("18 one too many, told", x.stock(0, 0), 0);
    Check.bytes(x, 0, 9, 9, 9, 9, 9, 9);
    check.due("18 far too many", x.stock(0, -1), 0);
  }

  private static void stockOpen() {
    BlindSacks x = new BlindSacks();
    x.sack(0);
    x.sack(1);
    x.sack(1);
    x.buyer(50, 6);
    Check.bytes(x, 0, 1, 1, 1, 0, 0, 0);
    check.due("18 three of three", x.stock(0, -1), 6);
    x.open(1);
    check.due("18 an OPEN one is as it is", x.stock(0, -1), 2);
    check.due("18 the OPEN one holds it in all", x.stock(0, 11), 2);
    check.due("18 the OPEN one holds no other", x.stock(0, 10), 0);
    check.due("18 a tied one holds it no more", x.stock(0, 1), 0);
    check.due("18 a tied one", x.stock(0, 2), 1);
    x.sell(0, 0);
    check.due("18 a SOLD one is tied still", x.stock(0, -1), 2);
    x.open(2);
    check.due("18 more opened than came", x.stock(0, -1), 0);
    check.due("18 more opened than came, told", x.stock(0, 11), 0);
    Check.bytes(x, 0, 1, 2, 0, 0, 0, 0);
    x.open(0);
    check.due("18 all OPEN, as they came", x.stock(0, -1), 1);
    check.due("18 all OPEN, told", x.stock(0, 21), 1);
    Check.bytes(x, 0, 1, 3, 0, 0, 0, 0);
    check.due("18 all OPEN, one is over", x.stock(0, -1), 0);
  }

  private static void stockRefusals() {
    BlindSacks x = new BlindSacks();
    x.sack(0);
    check.due("18 nothing", x.stock(0, -1), NONE);
    x.row(0, 1, 6);
    check.due("18 shorts", x.stock(0, -1), NONE);
    x.body(0);
    x.keep(0, 0);
    check.due("18 a KNOT", x.stock(0, -1), NONE);
    Check.bytes(x, 0, 1, 0, 0, 0, 0);
    check.due("18 five bytes", x.stock(0, -1), NONE);
    Check.bytes(x, 0, 1, 0, 0, 0, 0, 0, 0);
    check.due("18 seven bytes", x.stock(0, -1), NONE);
    Check.bytes(x, 0, 1, 0, 0, 0, 0, 10);
    check.due("18 a byte of 10", x.stock(0, -1), NONE);
    Check.bytes(x, 0, 1, 0, 0, 0, 0, -1);
    check.due("18 a byte below 0", x.stock(0, -1), NONE);
    Check.bytes(x, 0, 1, 0, 0, 0, 0, 0);
    check.due("18 as said", x.stock(0, -1), 1);
    check.due("18 sg -2", x.stock(0, -2), NONE);
    check.due("18 GOOD 6", x.stock(0, 6), NONE);
    check.due("18 SACK 1", x.stock(0, 10), NONE);
    check.due("18 shelf 6", x.stock(6, -1), NONE);
    check.due("18 shelf -1", x.stock(-1, -1), NONE);
  }

  // Promise 19
  private static void tells() {
    BlindSacks x = new BlindSacks();
    check.due("19 all alike", x.tells(0), 6);
    check.due("19 by nothing", x.tells(1), -2);
    check.due("19 what 2", x.tells(2), -1);
    check.due("19 what -1", x.tells(-1), -1);
    x.mend(0, 1, 1);
    check.due("19 five alike", x.tells(0), 5);
    x.mend(1, 1, 2);
    x.mend(2, 1, 2);
    check.due("19 two and three alike", x.tells(0), 5);
    // SOUND g % 4, SMELL and KNOT g / 4: SOUND with SMELL, SOUND with KNOT
    for (int g = 0; g < 6; g++) {
      x.mend(g, 1, g % 4);
      x.mend(g, 2, g / 4);
      x.mend(g, 3, g / 4);
    }
    check.due("19 none alike", x.tells(0), 0);
    check.due("19 of like ones the least", x.tells(1), 3);
    for (int g = 0; g < 6; g++) x.mend(g, 2, 0);
    check.due("19 SOUND and KNOT", x.tells(1), 5);
    for (int g = 0; g < 6; g++) {
      x.mend(g, 1, 0);
      x.mend(g, 2, g % 4);
    }
    check.due("19 SMELL and KNOT", x.tells(1), 6);
    // by threes alone: SOUND g & 1, SMELL g & 2, KNOT g & 4
    for (int g = 0; g < 6; g++) {
      x.mend(g, 1, g & 1);
      x.mend(g, 2, g >> 1 & 1);
      x.mend(g, 3, g >> 2);
    }
    check.due("19 all three", x.tells(1), 7);
    x.mend(0, 3, 1);
    check.due("19 GOODS 0 and 4 alike", x.tells(0), 2);
    x.mend(0, 3, 0);
    x.mend(5, 1, 0);
    check.due("19 two alike", x.tells(0), 2);
    check.due("19 not told apart", x.tells(1), -2);
  }

  private static void turns(BlindSacks x, int asked, int n, int paid, int raises) {
    x.mend(0, 5, asked);
    check.due("20 paid from " + asked + " in " + n, x.byTurns(0, n, 0), paid);
    check.due("20 raised from " + asked + " in " + n, x.byTurns(0, n, 1), raises);
  }

  // Promise 20
  private static void byTurns() {
    BlindSacks x = new BlindSacks();
    x.sack(0);
    x.buyer(999, 6);
    // it is worth 25
    turns(x, 10, 1, 20, 1);
    turns(x, 15, 1, 25, 1);
    turns(x, 16, 1, 16, 0);
    turns(x, 25, 1, 25, 0);
    turns(x, 26, 1, 0, 0);
    turns(x, 10, 2, 10, 1);
    turns(x, 20, 2, 20, 1);
    // from 25: raised to 35, lowered to 25, that gains him nothing: he lets it be and does not buy;
    // let be, he lowers it to 15
    turns(x, 25, 2, 15, 0);
    turns(x, 26, 2, 16, 0);
    turns(x, 35, 2, 0, 0);
    turns(x, 36, 2, 0, 0);
    turns(x, 34, 2, 24, 0);
    turns(x, 4, 2, 4, 1);
    turns(x, 0, 2, 0, 0);
    turns(x, 10, 3, 20, 1);
    check.due("20 nothing is done", x.of(0, 5), 10);
    check.due("20 nothing is SOLD", x.of(0, 9), -1);
    x.mend(0, 6, 19);
    turns(x, 10, 1, 10, 0);
    turns(x, 9, 1, 19, 1);
    turns(x, 20, 1, 0, 0);
    // the PURSE of 19 is less than the worth: at 20 he does not buy, at 10 he gains 15
    turns(x, 20, 2, 10, 0);
    x.mend(0, 6, 10);
    turns(x, 20, 2, 10, 0);
    turns(x, 21, 2, 0, 0);
    x.mend(0, 6, 999);
    x.mend(5, 0, 55);
    turns(x, 16, 1, 16, 0);
    // worth 5, ASKED 5: raised, he lets it be and does not buy; let be, he makes it 0, and the seller, to whom
    // 0 and not sold are alike, lets that be
    Check.law(x, "5");
    turns(x, 5, 3, 0, 0);
  }

  private static void byTurnsEdges() {
    BlindSacks x = new BlindSacks();
    check.due("20 no BUYER", x.byTurns(0, 1, 0), -1);
    x.sack(0);
    x.sack(0);
    x.buyer(999, 6);
    Check.law(x, "200");
    turns(x, 95, 1, 99, 1);
    turns(x, 99, 1, 99, 0);
    turns(x, 89, 1, 99, 1);
    turns(x, 99, 2, 89, 0);
    // raised to 99 it ends at 89, however he lowers it; let be it would end at 85
    turns(x, 95, 4, 89, 1);
    check.due("20 n 0", x.byTurns(0, 0, 0), -1);
    check.due("20 n 5", x.byTurns(0, 5, 0), -1);
    check.due("20 what 2", x.byTurns(0, 1, 2), -1);
    check.due("20 what -1", x.byTurns(0, 1, -1), -1);
    check.due("20 no SACK 2", x.byTurns(2, 1, 0), -1);
    check.due("20 no BUYER 1", x.byTurns(10, 1, 0), -1);
    check.due("20 bs -1", x.byTurns(-1, 1, 0), -1);
    for (int k = 1; k < 6; k++) x.buyer(k == 5 ? 999 : 0, 6);
    for (int k = 2; k < 10; k++) x.sack(0);
    x.mend(9, 5, 30);
    check.due("20 paid by BUYER 5 for SACK 9", x.byTurns(59, 1, 0), 40);
    check.due("20 raised for BUYER 5, SACK 9", x.byTurns(59, 1, 1), 1);
    check.due("20 paid by BUYER 5 for SACK 2", x.byTurns(52, 1, 0), 20);
    check.due("20 raised for BUYER 5, SACK 2", x.byTurns(52, 1, 1), 1);
    check.due("20 not bought by BUYER 4", x.byTurns(49, 1, 0), 0);
    check.due("20 not raised for BUYER 4", x.byTurns(49, 1, 1), 0);
    x.sell(0, 0);
    check.due("20 SOLD", x.byTurns(0, 1, 0), -5);
    x.open(1);
    check.due("20 OPEN", x.byTurns(1, 1, 0), -5);
    check.due("20 BAD ahead of STATE", x.byTurns(1, 9, 0), -1);
  }

  // WORTH goes by ASKED as the turns made it, if THE LAW does
  private static void byTurnsByAsked() {
    BlindSacks x = new BlindSacks();
    x.sack(0);
    x.buyer(25, 6);
    Check.law(x, "a");
    turns(x, 10, 1, 20, 1);
    turns(x, 15, 1, 25, 1);
    turns(x, 16, 1, 16, 0);
    // whatever is paid, he gains nothing: he lets it be, and pays 20
    turns(x, 10, 2, 20, 1);
    // at 30 he would not buy, and gains as little as at 20: he lets it be
    turns(x, 30, 2, 0, 0);
    // 20 is the most that he can pay, and the seller can still raise it behind him
    turns(x, 10, 3, 20, 0);
    x.mend(0, 6, 999);
    turns(x, 10, 3, 30, 1);
    turns(x, 95, 3, 99, 0);
    // the less is ASKED, the less it is worth: at 30 he gains 30, at 20 he gains 20
    Check.law(x, "2*a");
    turns(x, 20, 2, 30, 1);
    // worth 40 from 30 on, and 0 below: he lowers 40 to 30, but lets 30 be
    Check.law(x, "a<30?0;40");
    turns(x, 30, 1, 40, 1);
    turns(x, 30, 2, 30, 0);
    turns(x, 10, 1, 0, 0);
    // worth 60 up to 20, and 0 above: raised to 30 he has to make it 20 again; let be, he would make it 10
    Check.law(x, "a>20?0;60");
    turns(x, 20, 1, 20, 0);
    turns(x, 20, 2, 20, 1);
    turns(x, 30, 2, 20, 0);
    turns(x, 31, 2, 0, 0);
    check.due("20 ASKED is as it was", x.of(0, 5), 31);
    check.due("20 worth by ASKED as it was", x.worthOf(0, 0), 0);
    Check.law(x, "999");
    turns(x, 10, 2, 10, 1);
    turns(x, 99, 4, 89, 0);
  }

  // Promise 21
  private static void drawn() {
    BlindSacks x = new BlindSacks();
    check.due("21 no BUYER", x.drawn(0, 1, 0, 0), -2000000000);
    x.buyer(40, 6);
    check.due("21 no SACK", x.drawn(0, 30, 0, 0), 0);
    x.sack(3);
    // SEED 0 gives 12345, -740551042, -1492899873, -698016724, 229283573: GOODS 0, 0, 3, 4, 0
    check.due("21 two days", x.drawn(0, 2, 0, 0), 0);
    check.due("21 three days", x.drawn(0, 3, 0, 0), 1);
    check.due("21 its worth by what is IN less paid", x.drawn(0, 3, 0, 1), 20);
    check.due("21 four days", x.drawn(0, 4, 0, 1), 40);
    x.mend(0, 5, 40);
    check.due("21 for all of his PURSE", x.drawn(0, 4, 0, 0), 1);
    check.due("21 below 0", x.drawn(0, 4, 0, 1), -10);
    x.mend(0, 5, 41);
    check.due("21 too dear", x.drawn(0, 4, 0, 0), 0);
    x.mend(0, 5, 40);
    x.mend(0, 6, 39);
    check.due("21 PURSE too small", x.drawn(0, 4, 0, 0), 0);
    Check.law(x, "99");
    x.mend(0, 5, 10);
    x.sack(2);
    x.sack(2);
    x.mend(0, 6, 25);
    check.due("21 two a day, by the day's PURSE", x.drawn(7, 30, 0, 0), 60);
    check.due("21 89 for each", x.drawn(7, 30, 0, 1), 60 * 89);
    check.due("21 nothing is paid in deed", x.of(0, 6), 25);
    x.sell(0, 0);
    x.open(1);
    check.due("21 neither SOLD nor OPEN", x.drawn(7, 10, 0, 0), 10);
    check.due("21 n 0", x.drawn(0, 0, 0, 0), -2000000000);
    check.due("21 n 31", x.drawn(0, 31, 0, 0), -2000000000);
    check.due("21 BUYER 1", x.drawn(0, 1, 1, 0), -2000000000);
    check.due("21 BUYER -1", x.drawn(0, 1, -1, 0), -2000000000);
    check.due("21 what 2", x.drawn(0, 1, 0, 2), -2000000000);
    check.due("21 what -1", x.drawn(0, 1, 0, -1), -2000000000);
    // a free SACK alone draws: GOODS 0, 0, 3, 4, 0, as above
    Check.law(x, "g");
    x.mend(2, 5, 3);
    check.due("21 SOLD and OPEN ones draw nothing", x.drawn(0, 5, 0, 0), 2);
    check.due("21 GOOD 2 is in it", x.drawn(0, 5, 0, 1), -2);
    // what it seems and what it is are worth by its own ASKED
    x.mend(0, 6, 99);
    x.mend(2, 5, 30);
    Check.law(x, "a>50?0;a*2");
    check.due("21 by ASKED", x.drawn(0, 5, 0, 0), 5);
    check.due("21 30 for each", x.drawn(0, 5, 0, 1), 150);
  }
}
