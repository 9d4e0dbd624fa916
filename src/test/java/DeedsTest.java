/** Promises 22 to 29: selling, opening, dusk, what is led, an image, changes undone and done again. */
final class DeedsTest {
  private static final Check check = new Check();

  public static void main(String[] args) {
    sell();
    open();
    dusk();
    led();
    image();
    imageOfLaterOnes();
    imageOfAll();
    undoAndRedo();
    undoBesideDeeds();
    fortyChanges();
    check.end();
  }

  // Promise 22
  private static void sell() {
    BlindSacks x = new BlindSacks();
    check.due("22 no SACK", x.sell(0, 0), -1);
    x.sack(0);
    x.sack(1);
    x.sack(2);
    check.due("22 no BUYER", x.sell(0, 0), -1);
    x.buyer(20, 6);
    x.buyer(9, 6);
    check.due("22 PURSE is less", x.sell(0, 1), -5);
    check.due("22 his PURSE then", x.sell(0, 0), 10);
    check.due("22 SOLD to him", x.of(0, 9), 0);
    check.due("22 PURSE", x.of(0, 6), 10);
    check.due("22 not OPEN", x.of(0, 10), 0);
    check.due("22 SOLD already", x.sell(0, 0), -5);
    x.open(1);
    check.due("22 OPEN", x.sell(1, 0), -5);
    check.due("22 for all of his PURSE", x.sell(2, 0), 0);
    check.due("22 SACK 3", x.sell(3, 0), -1);
    check.due("22 BUYER 2", x.sell(0, 2), -1);
    check.due("22 SACK -1", x.sell(-1, 0), -1);
    check.due("22 BUYER -1", x.sell(0, -1), -1);
    check.due("22 two SOLD", x.led(0), 2);
    check.due("22 20 paid", x.led(1), 20);
    check.due("22 a deed is no change", x.count(3), 0);
    x.mend(1, 6, 0);
    x.sack(0);
    x.mend(3, 5, 0);
    check.due("22 for nothing", x.sell(3, 1), 0);
  }

  // Promise 23
  private static void open() {
    BlindSacks x = new BlindSacks();
    check.due("23 no SACK", x.open(0), -1);
    x.sack(3);
    x.sack(0);
    x.buyer(20, 6);
    check.due("23 what is IN", x.open(0), 3);
    check.due("23 OPEN", x.of(0, 10), 1);
    check.due("23 OPEN already", x.open(0), -5);
    check.due("23 SACK -1", x.open(-1), -1);
    check.due("23 SACK 2", x.open(2), -1);
    check.due("23 nobody groans at one not SOLD", x.led(3), 0);
    x.sell(1, 0);
    check.due("23 a SOLD one", x.open(1), 0);
    check.due("23 it stays SOLD", x.of(1, 9), 0);
    check.due("23 a groan", x.led(3), 1);
    check.due("23 two OPENED", x.led(2), 2);
  }

  // Promise 24
  private static void dusk() {
    BlindSacks x = new BlindSacks();
    check.due("24 over nothing", x.dusk(), 0);
    check.due("24 a dusk all the same", x.led(4), 1);
    for (int g = 0; g < 4; g++) x.sack(g);
    x.buyer(100, 6);
    x.sell(0, 0);
    x.sell(1, 0);
    x.sell(2, 0);
    x.mend(2, 5, 21);
    // worth 0, 10, 20 by ASKED 10, 10, 21
    check.due("24 two groans", x.dusk(), 2);
    for (int s = 0; s < 4; s++) check.due("24 all are OPEN", x.of(s, 10), 1);
    check.due("24 four OPENED", x.led(2), 4);
    check.due("24 no groan again", x.dusk(), 0);
    check.due("24 two groans led", x.led(3), 2);
    check.due("24 three dusks", x.led(4), 3);
    check.due("24 OPENED once", x.led(2), 4);
    BlindSacks y = new BlindSacks();
    y.sack(0);
    y.sack(0);
    y.buyer(100, 6);
    y.sell(0, 0);
    y.sell(1, 0);
    y.open(0);
    check.due("24 those of this dusk alone", y.dusk(), 1);
    check.due("24 those ahead are led", y.led(3), 2);
  }

  // Promise 25
  private static void led() {
    BlindSacks x = new BlindSacks();
    check.due("25 what -1", x.led(-1), -1);
    check.due("25 what 5", x.led(5), -1);
    x.sack(5);
    x.sack(0);
    x.buyer(100, 6);
    x.mend(0, 5, 33);
    x.sell(0, 0);
    x.mend(0, 5, 44);
    check.due("25 what was paid then", x.led(1), 33);
    x.mend(0, 5, 51);
    x.open(0);
    check.due("25 a groan by what is ASKED at the opening", x.led(3), 1);
    x.mend(0, 5, 0);
    check.due("25 it stays led", x.led(3), 1);
    check.due("25 SOLD", x.led(0), 1);
    check.due("25 OPENED", x.led(2), 1);
    check.due("25 no dusk", x.led(4), 0);
  }

  // Promises 26 and 27
  private static void image() {
    BlindSacks x = new BlindSacks();
    check.due("27 there is none", x.back(), -5);
    x.sack(0);
    x.sack(1);
    x.sack(2);
    x.buyer(50, 6);
    x.sell(0, 0);
    x.open(1);
    check.due("26 SOLD", x.image(), 1);
    x.sell(2, 0);
    x.dusk();
    x.mend(2, 4, 5);
    x.mend(2, 5, 77);
    x.mend(0, 7, 3);
    check.due("26 two SOLD ahead of back", x.led(0), 2);
    check.due("27 SOLD", x.back(), 1);
    int[] sold = {0, -1, -1}, open = {0, 1, 0}, led = {1, 10, 1, 0, 0};
    for (int s = 0; s < 3; s++) {
      check.due("27 SOLD of " + s, x.of(s, 9), sold[s]);
      check.due("27 OPEN of " + s, x.of(s, 10), open[s]);
    }
    for (int k = 0; k < 5; k++) check.due("27 led " + k, x.led(k), led[k]);
    check.due("27 PURSE", x.of(0, 6), 40);
    check.due("27 IN stays", x.of(2, 4), 5);
    check.due("27 ASKED stays", x.of(2, 5), 77);
    check.due("27 WANTS stays", x.of(0, 7), 3);
    check.due("27 changes stay", x.count(3), 3);
    x.dusk();
    check.due("27 laid back once more", x.back(), 1);
    check.due("27 OPEN once more", x.of(0, 10), 0);
    x.open(0);
    check.due("26 another image", x.image(), 1);
    x.dusk();
    x.back();
    check.due("27 the later image", x.of(0, 10), 1);
    check.due("27 the later image's OPENED", x.led(2), 2);
  }

  private static void imageOfLaterOnes() {
    BlindSacks x = new BlindSacks();
    x.sack(0);
    x.buyer(50, 6);
    x.image();
    x.sack(1);
    x.buyer(70, 6);
    x.sell(0, 1);
    x.sell(1, 1);
    x.open(1);
    check.due("27 SOLD as LED tells", x.back(), 0);
    check.due("27 the SACK of then", x.of(0, 9), -1);
    check.due("27 the later SACK is as it is", x.of(1, 9), 1);
    check.due("27 OPEN as it is", x.of(1, 10), 1);
    check.due("27 the later BUYER's PURSE is as it is", x.of(1, 6), 50);
    check.due("27 both SACKS are there", x.count(0), 2);
    Check.law(x, "s");
    check.due("27 THE LAW counts SACKS that are SOLD", x.worthOf(0, 0), 1);
    check.due("27 LED counts none", x.led(0), 0);
  }

  private static void imageOfAll() {
    BlindSacks x = new BlindSacks();
    for (int k = 0; k < 10; k++) x.sack(5);
    for (int k = 0; k < 6; k++) x.buyer(100 + k, 6);
    x.sell(9, 5);
    x.open(8);
    check.due("26 SOLD of ten", x.image(), 1);
    for (int k = 0; k < 8; k++) x.sell(k, k % 6);
    x.dusk();
    check.due("27 SOLD of ten", x.back(), 1);
    for (int k = 0; k < 10; k++) {
      check.due("27 SOLD of SACK " + k, x.of(k, 9), k == 9 ? 5 : -1);
      check.due("27 OPEN of SACK " + k, x.of(k, 10), k == 8 ? 1 : 0);
    }
    for (int k = 0; k < 6; k++) check.due("27 PURSE of BUYER " + k, x.of(k, 6), k == 5 ? 95 : 100 + k);
  }

  // Promises 28 and 29
  private static void undoAndRedo() {
    BlindSacks x = new BlindSacks();
    check.due("28 none", x.undo(), -5);
    check.due("29 none", x.redo(), -5);
    x.mend(1, 0, 11);
    x.mend(1, 0, 12);
    x.mend(2, 1, 3);
    x.mend(2, 1, 3);
    check.due("28 the same number is no change", x.count(3), 3);
    check.due("28 undo", x.undo(), 2);
    check.due("28 SOUND is as it was", x.of(2, 1), 0);
    check.due("28 undo", x.undo(), 1);
    check.due("28 PRICE is as it was", x.of(1, 0), 11);
    check.due("29 redo", x.redo(), 1);
    check.due("29 PRICE again", x.of(1, 0), 12);
    check.due("29 redo", x.redo(), 0);
    check.due("29 SOUND again", x.of(2, 1), 3);
    check.due("29 no more", x.redo(), -5);
    check.due("28 three again", x.count(3), 3);
    x.undo();
    x.undo();
    x.mend(1, 0, 11);
    check.due("29 the same number does not come between", x.redo(), 1);
    x.mend(3, 0, 5);
    check.due("29 another change came", x.redo(), -5);
    check.due("28 it is the latest", x.undo(), 2);
    check.due("28 PRICE of 3", x.of(3, 0), 30);
    check.due("28 the one ahead", x.undo(), 1);
    check.due("28 the first", x.undo(), 0);
    check.due("28 as at first", x.of(1, 0), 10);
    check.due("28 no more", x.undo(), -5);
    x.mend(1, 0, 100);
    check.due("29 a refused change does not come between", x.redo(), 2);
  }

  private static void undoBesideDeeds() {
    BlindSacks x = new BlindSacks();
    x.sack(0);
    x.buyer(60, 6);
    x.mend(0, 6, 99);
    x.mend(0, 5, 20);
    x.undo();
    check.due("22 PURSE", x.sell(0, 0), 89);
    x.open(0);
    x.dusk();
    x.sack(1);
    x.buyer(5, 5);
    check.due("29 deeds do not come between", x.redo(), 0);
    check.due("29 ASKED", x.of(0, 5), 20);
    x.undo();
    check.due("28 PURSE of then", x.undo(), 0);
    check.due("28 PURSE", x.of(0, 6), 60);
    check.due("28 SOLD stays", x.of(0, 9), 0);
    check.due("28 OPEN stays", x.of(0, 10), 1);
    check.due("29 done again", x.redo(), 1);
    check.due("29 PURSE as told", x.of(0, 6), 99);
    check.due("28 LED stays", x.led(1), 10);
  }

  private static void fortyChanges() {
    BlindSacks x = new BlindSacks();
    for (int k = 1; k <= 45; k++) {
      x.mend(0, 0, k);
      check.due("28 forty are kept", x.count(3), Math.min(40, k));
    }
    for (int k = 39; k >= 0; k--) check.due("28 undo", x.undo(), k);
    check.due("28 the five first stay", x.of(0, 0), 5);
    check.due("28 none is left", x.undo(), -5);
    for (int k = 39; k >= 0; k--) check.due("29 redo", x.redo(), k);
    check.due("29 the last again", x.of(0, 0), 45);
    x.undo();
    x.mend(0, 1, 1);
    check.due("28 forty with another", x.count(3), 40);
    x.undo();
    check.due("28 all but one", x.undo(), 38);
    check.due("28 the 43rd", x.of(0, 0), 43);
    BlindSacks y = new BlindSacks();
    for (int k = 0; k < 44; k++) y.mend(k % 6, k / 6 % 4, k / 24 + 1);
    for (int k = 0; k < 40; k++) y.undo();
    for (int g = 0; g < 6; g++) {
      check.due("28 PRICE of " + g, y.of(g, 0), g < 4 ? 1 : 10 * g);
      for (int what = 1; what < 4; what++) check.due("28 the others as at first", y.of(g, what), 0);
    }
    for (int k = 0; k < 40; k++) y.redo();
    for (int g = 0; g < 6; g++) {
      for (int what = 0; what < 4; what++) {
        check.due("29 " + what + " of " + g + " again", y.of(g, what), 6 * what + g < 20 ? 2 : 1);
      }
    }
  }
}
