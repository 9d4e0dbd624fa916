import java.math.BigInteger;
import java.util.ArrayList;
import java.util.Arrays;
import java.util.List;

/**
 * The document read a second time, with other means than the class: real fractions, real Java kinds,
 * all sets and all deals tried one by one, the law worked out from its letters.
 */
final class Model {
  static final int BAD = -1, NOT = -2, FULL = -3, STATE = -5, VOID = -2000000000;
  static final long NONE = Long.MIN_VALUE;

  static final class Good { int price, sound, smell, knot; int gives(int k) { return k == 0 ? sound : k == 1 ? smell : knot; } }
  static final class Sack { int in, sold = -1, open = 0, asked = 10; boolean free() { return sold == -1 && open == 0; } }
  static final class Buyer { int purse, wants, ear = 9; }
  record Change(int number, int what, int was, int v) { }
  record Image(int[] sold, int[] open, int[] purses, int[] led) { }
  record Fraction(BigInteger above, BigInteger below) {
    static Fraction of(BigInteger a, BigInteger b) {
      BigInteger g = a.gcd(b);
      return new Fraction(a.divide(g), b.divide(g));
    }
    static Fraction of(long a, long b) { return of(BigInteger.valueOf(a), BigInteger.valueOf(b)); }
    Fraction plus(Fraction o) { return of(above.multiply(o.below).add(o.above.multiply(below)), below.multiply(o.below)); }
    Fraction times(Fraction o) { return of(above.multiply(o.above), below.multiply(o.below)); }
    Fraction by(Fraction o) { return of(above.multiply(o.below), below.multiply(o.above)); }
    int compare(Fraction o) { return above.multiply(o.below).compareTo(o.above.multiply(below)); }
    int cut() { return above.divide(below).intValueExact(); }
    long part(int p) { return (p == 0 ? above : below).longValueExact(); }
  }

  final Good[] goods = new Good[6];
  final List<Sack> sacks = new ArrayList<>();
  final List<Buyer> buyers = new ArrayList<>();
  final StringBuilder tape = new StringBuilder();
  String text = null;
  final List<Change> undoable = new ArrayList<>();
  final List<Change> redoable = new ArrayList<>();
  int[] led = new int[5];
  Image kept = null;
  final List<Knot> bodies = new ArrayList<>();
  final List<Integer> ran = new ArrayList<>();
  final Object[] shelves = new Object[6];

  Model() {
    for (int g = 0; g < 6; g++) {
      goods[g] = new Good();
      goods[g].price = 10 * g;
    }
  }

  // ---- sacks, buyers

  int sack(int good) {
    if (good < 0 || good > 5) return BAD;
    if (sacks.size() == 10) return FULL;
    Sack s = new Sack();
    s.in = good;
    sacks.add(s);
    return sacks.size() - 1;
  }

  int sacks(int shelf, int i, int n) {
    if (!isShelf(shelf) || n < 1 || n > 10) return BAD;
    if (shelves[shelf] == null) return 0;
    if (!(shelves[shelf] instanceof byte[] row)) return -12;
    int came = 0;
    for (long at = i; came < n && at >= 0 && at + 1 < row.length && sacks.size() < 10; at += 2) {
      int in = row[(int) at], asked = row[(int) at + 1];
      if (in < 0 || in > 5 || asked < 0 || asked > 99) break;
      sacks.get(sack(in)).asked = asked;
      came++;
    }
    return came;
  }

  int buyer(int purse, int wants) {
    if (purse < 0 || purse > 999 || wants < 0 || wants > 6) return BAD;
    if (buyers.size() == 6) return FULL;
    Buyer b = new Buyer();
    b.purse = purse;
    b.wants = wants;
    buyers.add(b);
    return buyers.size() - 1;
  }

  int mend(int number, int what, int v) {
    if (what < 0 || what > 8 || of(number, what) == VOID) return VOID;
    int most = switch (what) { case 0, 5 -> 99; case 1, 2, 3 -> 3; case 4 -> 5; case 6 -> 999; case 7 -> 6; default -> 11; };
    if (v < (what == 8 ? 1 : 0) || v > most) return VOID;
    int was = of(number, what);
    if (was == v) return was;
    becomes(number, what, v);
    undoable.add(new Change(number, what, was, v));
    redoable.clear();
    if (undoable.size() > 40) undoable.remove(0);
    return was;
  }

  private void becomes(int number, int what, int v) {
    switch (what) {
      case 0: goods[number].price = v; break;
      case 1: goods[number].sound = v; break;
      case 2: goods[number].smell = v; break;
      case 3: goods[number].knot = v; break;
      case 4: sacks.get(number).in = v; break;
      case 5: sacks.get(number).asked = v; break;
      case 6: buyers.get(number).purse = v; break;
      case 7: buyers.get(number).wants = v; break;
      default: buyers.get(number).ear = v; break;
    }
  }

  int of(int number, int what) {
    if (number < 0) return VOID;
    if (what >= 0 && what <= 3 && number < 6) {
      return what == 0 ? goods[number].price : goods[number].gives(what - 1);
    }
    if ((what == 4 || what == 5 || what == 9 || what == 10) && number < sacks.size()) {
      Sack s = sacks.get(number);
      return what == 4 ? s.in : what == 5 ? s.asked : what == 9 ? s.sold : s.open;
    }
    if (what >= 6 && what <= 8 && number < buyers.size()) {
      Buyer b = buyers.get(number);
      return what == 6 ? b.purse : what == 7 ? b.wants : b.ear;
    }
    return VOID;
  }

  int feed(int letter) {
    if (letter < 0 || letter > 255) return BAD;
    if (tape.length() == 120) return FULL;
    tape.append((char) letter);
    return tape.length();
  }

  int law() {
    String read = tape.toString();
    tape.setLength(0);
    int fault = LawText.fault(read);
    if (fault >= 0) return -100 - fault;
    text = read;
    return 1;
  }

  private int price(int b, int s, int g) {
    int p = goods[g].price, w = buyers.get(b).wants == g ? 1 : 0;
    if (text == null) return w == 1 ? 2 * p : p;
    int sold = (int) sacks.stream().filter(x -> x.sold != -1).count();
    int v = LawText.value(text, new int[] {p, w, sacks.get(s).asked, sold, g, b});
    return v < 0 ? 0 : v > 999 ? 999 : v;
  }

  int worthOf(int buyer, int sg) {
    if (buyer < 0 || buyer >= buyers.size() || sg < 0 || sg / 10 >= sacks.size() || sg % 10 > 5) return BAD;
    return price(buyer, sg / 10, sg % 10);
  }

  // ---- beliefs

  private boolean isShelf(int shelf) { return shelf >= 0 && shelf < 6; }
  private boolean isBs(int bs) { return bs >= 0 && bs / 10 < buyers.size() && bs % 10 < sacks.size(); }

  private int looksAnswer(int shelf, boolean asSaid) {
    if (!isShelf(shelf) || !asSaid) return BAD;
    if (shelves[shelf] == null) return -11;
    return shelves[shelf] instanceof byte[] ? 0 : -12;
  }

  private Fraction seems(int b, int g, int k, int answer) {
    int ear = buyers.get(b).ear;
    return goods[g].gives(k) == answer ? Fraction.of(ear, 12) : Fraction.of(12 - ear, 36);
  }

  private Fraction[] beliefs(byte[] looks, int b, int s) {
    Fraction[] f = new Fraction[6];
    if (sacks.get(s).open == 1) {
      for (int g = 0; g < 6; g++) f[g] = Fraction.of(sacks.get(s).in == g ? 1 : 0, 1);
      return f;
    }
    Arrays.fill(f, Fraction.of(1, 6));
    for (int at = 0; at + 2 < looks.length && at < 18; at += 3) {
      int sack = looks[at], k = looks[at + 1], seemed = looks[at + 2];
      if (sack < 0 || sack >= sacks.size() || k < 0 || k > 2 || seemed < 0 || seemed > 3) break;
      if (sack != s) continue;
      Fraction sum = Fraction.of(0, 1);
      for (int g = 0; g < 6; g++) {
        f[g] = f[g].times(seems(b, g, k, seemed));
        sum = sum.plus(f[g]);
      }
      for (int g = 0; g < 6; g++) f[g] = f[g].by(sum);
    }
    return f;
  }

  private static Fraction most(Fraction[] f) {
    Fraction best = f[0];
    for (Fraction x : f) if (x.compare(best) > 0) best = x;
    return best;
  }

  private Fraction mean(byte[] looks, int b, int s) {
    Fraction[] f = beliefs(looks, b, s);
    Fraction sum = Fraction.of(0, 1);
    for (int g = 0; g < 6; g++) sum = sum.plus(f[g].times(Fraction.of(price(b, s, g), 1)));
    return sum;
  }

  long belief(int shelf, int bs, int good, int part) {
    if (looksAnswer(shelf, isBs(bs) && good >= 0 && good < 6 && (part == 0 || part == 1)) != 0) return NONE;
    return beliefs((byte[]) shelves[shelf], bs / 10, bs % 10)[good].part(part);
  }

  int likeliest(int shelf, int bs, int what) {
    int no = looksAnswer(shelf, isBs(bs) && (what == 0 || what == 1));
    if (no != 0) return no;
    byte[] looks = (byte[]) shelves[shelf];
    if (what == 1) return mean(looks, bs / 10, bs % 10).compare(Fraction.of(sacks.get(bs % 10).asked, 1)) > 0 ? 1 : 0;
    Fraction[] f = beliefs(looks, bs / 10, bs % 10);
    for (int g = 0; g < 6; g++) if (f[g].compare(most(f)) == 0) return g;
    return 99;
  }

  long worth(int shelf, int bs, int part) {
    if (looksAnswer(shelf, isBs(bs) && (part == 0 || part == 1)) != 0) return NONE;
    return mean((byte[]) shelves[shelf], bs / 10, bs % 10).part(part);
  }

  private Fraction rightBy(byte[] looks, int b, int s, int k) {
    Fraction[] f = beliefs(looks, b, s);
    if (k == 3) return most(f);
    Fraction sum = Fraction.of(0, 1);
    for (int answer = 0; answer < 4; answer++) {
      Fraction[] with = new Fraction[6];
      for (int g = 0; g < 6; g++) with[g] = f[g].times(seems(b, g, k, answer));
      sum = sum.plus(most(with));
    }
    return sum;
  }

  private int nextBest(byte[] looks, int b, int s) {
    Fraction[] r = new Fraction[3];
    for (int k = 0; k < 3; k++) r[k] = rightBy(looks, b, s, k);
    Fraction best = most(r);
    if (best.compare(rightBy(looks, b, s, 3)) <= 0) return 3;
    return r[0].compare(best) == 0 ? 0 : r[1].compare(best) == 0 ? 1 : 2;
  }

  int next(int shelf, int bs) {
    int no = looksAnswer(shelf, isBs(bs));
    if (no != 0) return no;
    if (sacks.get(bs % 10).open == 1) return STATE;
    return nextBest((byte[]) shelves[shelf], bs / 10, bs % 10);
  }

  long right(int shelf, int bs, int part) {
    if (looksAnswer(shelf, isBs(bs) && (part == 0 || part == 1)) != 0) return NONE;
    if (sacks.get(bs % 10).open == 1) return 1;
    byte[] looks = (byte[]) shelves[shelf];
    return rightBy(looks, bs / 10, bs % 10, nextBest(looks, bs / 10, bs % 10)).part(part);
  }

  int buys(int shelf, int buyer, int what) {
    int no = looksAnswer(shelf, buyer >= 0 && buyer < buyers.size() && (what == 0 || what == 1));
    if (no != 0) return no;
    int[] gains = new int[sacks.size()];
    for (int s = 0; s < gains.length; s++) gains[s] = mean((byte[]) shelves[shelf], buyer, s).cut() - sacks.get(s).asked;
    int best = 0, bits = 0;
    for (int size = 0; size <= sacks.size(); size++) {
      for (int set = 0; set < 1 << sacks.size(); set++) {
        if (Integer.bitCount(set) != size) continue;
        int asked = 0, gain = 0;
        boolean free = true;
        for (int s = 0; s < sacks.size(); s++) {
          if ((set & 1 << s) != 0) {
            free &= sacks.get(s).free();
            asked += sacks.get(s).asked;
            gain += gains[s];
          }
        }
        if (free && asked <= buyers.get(buyer).purse && gain > best) {
          best = gain;
          bits = set;
        }
      }
    }
    return what == 0 ? best : bits;
  }

  // ---- dealing, groans, stock

  private int bestDeal;
  private int[] bestHas;

  private int plain(int b, int s) { return mean(new byte[0], b, s).cut(); }

  private void deal(int[][] gains, int b, int sum, int[] has) {
    if (b == buyers.size()) {
      if (sum > bestDeal) {
        bestDeal = sum;
        bestHas = has.clone();
      }
      return;
    }
    for (int s = 0; s < sacks.size(); s++) {
      boolean had = false;
      for (int c = 0; c < b; c++) had |= has[c] == s;
      if (had || !sacks.get(s).free() || gains[b][s] < 0) continue;
      has[b] = s;
      deal(gains, b + 1, sum + gains[b][s], has);
    }
    has[b] = NOT;
    deal(gains, b + 1, sum, has);
  }

  int dealt(int buyer) {
    if (buyer < -1 || buyer >= buyers.size()) return BAD;
    int[][] gains = new int[buyers.size()][sacks.size()];
    for (int b = 0; b < buyers.size(); b++) {
      for (int s = 0; s < sacks.size(); s++) gains[b][s] = plain(b, s) - sacks.get(s).asked;
    }
    bestDeal = -1;
    deal(gains, 0, 0, new int[buyers.size()]);
    return buyer == -1 ? bestDeal : bestHas[buyer];
  }

  int groan(int shelf, int what) {
    int no = looksAnswer(shelf, what >= 0 && what <= 2);
    if (no != 0) return no;
    byte[] row = (byte[]) shelves[shelf];
    List<Integer> differ = new ArrayList<>();
    int less = 0;
    for (int at = 0; at + 1 < row.length && at < 20; at += 2) {
      int s = row[at], g = row[at + 1];
      if (s < 0 || s >= sacks.size() || g < 0 || g > 5) break;
      Sack k = sacks.get(s);
      if (k.in != g) differ.add(s);
      if (k.sold != -1 && price(k.sold, s, g) < k.asked) less++;
    }
    return what == 0 ? differ.size() : what == 1 ? less : differ.isEmpty() ? NOT : differ.get(0);
  }

  private long fill(int s, int[] left, int sack, int good) {
    if (s == sacks.size()) {
      for (int n : left) if (n != 0) return 0;
      return 1;
    }
    long ways = 0;
    for (int g = 0; g < 6; g++) {
      if (left[g] == 0 || sacks.get(s).open == 1 && sacks.get(s).in != g || s == sack && g != good) continue;
      left[g]--;
      ways += fill(s + 1, left, sack, good);
      left[g]++;
    }
    return ways;
  }

  long stock(int shelf, int sg) {
    boolean sgOk = sg == -1 || sg >= 0 && sg / 10 < sacks.size() && sg % 10 < 6;
    if (looksAnswer(shelf, sgOk) != 0) return NONE;
    byte[] row = (byte[]) shelves[shelf];
    if (row.length != 6) return NONE;
    int[] left = new int[6];
    int sum = 0;
    for (int g = 0; g < 6; g++) {
      left[g] = row[g];
      sum += row[g];
      if (row[g] < 0 || row[g] > 9) return NONE;
    }
    if (sum != sacks.size()) return 0;
    return fill(0, left, sg == -1 ? -1 : sg / 10, sg == -1 ? -1 : sg % 10);
  }

  int tells(int what) {
    if (what == 0) {
      int n = 0;
      for (int g = 0; g < 6; g++) {
        for (int h = 0; h < 6; h++) {
          if (g != h && seen(7, g).equals(seen(7, h))) { n++; break; }
        }
      }
      return n;
    }
    if (what != 1) return BAD;
    for (int bits : new int[] {0, 1, 2, 4, 3, 5, 6, 7}) {
      if (java.util.stream.IntStream.range(0, 6).mapToObj(g -> seen(bits, g)).distinct().count() == 6) return bits;
    }
    return NOT;
  }

  private String seen(int bits, int g) {
    StringBuilder b = new StringBuilder();
    for (int k = 0; k < 3; k++) if ((bits & 1 << k) != 0) b.append(goods[g].gives(k)).append(' ');
    return b.toString();
  }

  /** What is paid, what the BUYER gains, and whether the first of these turns moved ASKED. */
  record Outcome(int paid, int gain, boolean moved) { }

  private Outcome turn(int asked, int n, boolean seller, int b, int s) {
    if (n == 0) return boughtFor(asked, b, s);
    Outcome let = turn(asked, n - 1, !seller, b, s);
    Outcome move = turn(seller ? Math.min(99, asked + 10) : Math.max(0, asked - 10), n - 1, !seller, b, s);
    boolean moves = seller ? move.paid > let.paid : move.gain > let.gain;
    return moves ? new Outcome(move.paid, move.gain, true) : new Outcome(let.paid, let.gain, false);
  }

  /** The SACK itself is ASKED so much for a while, so that WORTH is reckoned as anywhere else. */
  private Outcome boughtFor(int asked, int b, int s) {
    int before = sacks.get(s).asked;
    sacks.get(s).asked = asked;
    int worth = plain(b, s);
    sacks.get(s).asked = before;
    return worth >= asked && buyers.get(b).purse >= asked ? new Outcome(asked, worth - asked, false) : new Outcome(0, 0, false);
  }

  int byTurns(int bs, int n, int what) {
    if (!isBs(bs) || n < 1 || n > 4 || what < 0 || what > 1) return BAD;
    Sack s = sacks.get(bs % 10);
    if (!s.free()) return STATE;
    Outcome o = turn(s.asked, n, true, bs / 10, bs % 10);
    return what == 0 ? o.paid : o.moved ? 1 : 0;
  }

  int drawn(int seed, int n, int buyer, int what) {
    if (n < 1 || n > 30 || buyer < 0 || buyer >= buyers.size() || what < 0 || what > 1) return VOID;
    int z = seed, bought = 0, gain = 0;
    for (int d = 0; d < n; d++) {
      int left = buyers.get(buyer).purse;
      for (int s = 0; s < sacks.size(); s++) {
        Sack k = sacks.get(s);
        if (!k.free()) continue;
        z = z * 1103515245 + 12345;
        int seems = (z >>> 8) % 6;
        if (price(buyer, s, seems) >= k.asked && left >= k.asked) {
          left -= k.asked;
          bought++;
          gain += price(buyer, s, k.in) - k.asked;
        }
      }
    }
    return what == 0 ? bought : gain;
  }

  // ---- in deed

  int sell(int sack, int buyer) {
    if (sack < 0 || sack >= sacks.size() || buyer < 0 || buyer >= buyers.size()) return BAD;
    Sack s = sacks.get(sack);
    Buyer b = buyers.get(buyer);
    if (!s.free() || b.purse < s.asked) return STATE;
    s.sold = buyer;
    b.purse -= s.asked;
    led[0]++;
    led[1] += s.asked;
    return b.purse;
  }

  int open(int sack) {
    if (sack < 0 || sack >= sacks.size()) return BAD;
    Sack s = sacks.get(sack);
    if (s.open == 1) return STATE;
    s.open = 1;
    led[2]++;
    if (s.sold != -1 && price(s.sold, sack, s.in) < s.asked) led[3]++;
    return s.in;
  }

  int dusk() {
    int before = led[3];
    for (int s = 0; s < sacks.size(); s++) open(s);
    led[4]++;
    return led[3] - before;
  }

  int led(int what) { return what < 0 || what > 4 ? BAD : led[what]; }

  int image() {
    kept = new Image(sacks.stream().mapToInt(s -> s.sold).toArray(), sacks.stream().mapToInt(s -> s.open).toArray(),
        buyers.stream().mapToInt(b -> b.purse).toArray(), led.clone());
    return led[0];
  }

  int back() {
    if (kept == null) return STATE;
    for (int s = 0; s < kept.sold.length; s++) {
      sacks.get(s).sold = kept.sold[s];
      sacks.get(s).open = kept.open[s];
    }
    for (int b = 0; b < kept.purses.length; b++) buyers.get(b).purse = kept.purses[b];
    led = kept.led.clone();
    return led[0];
  }

  int undo() {
    if (undoable.isEmpty()) return STATE;
    Change c = undoable.remove(undoable.size() - 1);
    becomes(c.number, c.what, c.was);
    redoable.add(c);
    return undoable.size();
  }

  int redo() {
    if (redoable.isEmpty()) return STATE;
    Change c = redoable.remove(redoable.size() - 1);
    becomes(c.number, c.what, c.v);
    undoable.add(c);
    return redoable.size();
  }

  // ---- acts, shelves

  interface Ties { int n(); void began(int body); default int ties(int x) { began(1); return x + n(); } }
  interface Tells { void began(int body); int sells(int x); int shakes(int x); default int tells(int x) { began(2); return sells(x) - shakes(1); } }
  static class Knot implements Ties, Tells {
    final int number;
    final List<Integer> ran;
    Knot(int number, List<Integer> ran) { this.number = number; this.ran = ran; }
    public int n() { return number; }
    public void began(int body) { ran.add(body); }
    public int sells(int x) { began(10); return ties(x) * 2; }
    public int shakes(int x) { began(11); return x ^ number; }
  }
  static class Voice extends Knot {
    Voice(int n, List<Integer> r) { super(n, r); }
    public int ties(int x) { began(20); return super.ties(x) + 3; }
  }
  static class Tier extends Knot {
    Tier(int n, List<Integer> r) { super(n, r); }
    public int sells(int x) { began(30); return -super.sells(x); }
  }
  static class Corpse extends Tier {
    Corpse(int n, List<Integer> r) { super(n, r); }
    public int shakes(int x) { began(40); return super.shakes(x) * 3; }
    public int sells(int x) { began(41); return super.sells(x + 1); }
  }
  static class China extends Voice {
    China(int n, List<Integer> r) { super(n, r); }
    public int shakes(int x) { began(50); return super.shakes(x) - ties(2); }
  }
  static class Drum extends Corpse {
    Drum(int n, List<Integer> r) { super(n, r); }
    public int tells(int x) { began(60); return super.tells(x) ^ 5; }
  }
  static class Cat extends Knot {
    Cat(int n, List<Integer> r) { super(n, r); }
    public int ties(int x) { began(70); return super.ties(x) * 2; }
  }
  static class Cheese extends China {
    Cheese(int n, List<Integer> r) { super(n, r); }
    public int sells(int x) { began(80); return super.sells(x) + shakes(2); }
    public int tells(int x) { began(81); return super.tells(x) - 1; }
  }
  static final Class<?>[] KINDS = {Knot.class, Voice.class, Tier.class, Corpse.class, China.class, Drum.class, Cat.class, Cheese.class};

  int body(int kind) {
    if (kind < 0 || kind > 7) return BAD;
    if (bodies.size() == 50) return FULL;
    int n = bodies.size();
    bodies.add(switch (kind) {
      case 0 -> new Knot(n, ran);
      case 1 -> new Voice(n, ran);
      case 2 -> new Tier(n, ran);
      case 3 -> new Corpse(n, ran);
      case 4 -> new China(n, ran);
      case 5 -> new Drum(n, ran);
      case 6 -> new Cat(n, ran);
      default -> new Cheese(n, ran);
    });
    return n;
  }

  int act(int body, int act, int x) {
    ran.clear();
    if (body < 0 || body >= bodies.size()) return 0;
    Knot k = bodies.get(body);
    return switch (act) { case 0 -> k.ties(x); case 1 -> k.sells(x); case 2 -> k.shakes(x); case 3 -> k.tells(x); default -> 0; };
  }

  int trace(int i) { return i < 0 || i >= Math.min(24, ran.size()) ? BAD : ran.get(i); }

  int keep(int shelf, int body) {
    if (!isShelf(shelf) || body < -1 || body >= bodies.size()) return BAD;
    shelves[shelf] = body == -1 ? null : bodies.get(body);
    return 1;
  }

  int row(int shelf, int sort, int n) {
    if (!isShelf(shelf) || sort < 0 || sort > 4 || n > 60) return BAD;
    if (n < 0) return -14;
    Class<?>[] sorts = {byte.class, short.class, int.class, long.class, boolean.class};
    shelves[shelf] = java.lang.reflect.Array.newInstance(sorts[sort], n);
    return 1;
  }

  private int placeAnswer(int shelf, int i) {
    if (!isShelf(shelf)) return BAD;
    if (shelves[shelf] == null) return -11;
    if (!shelves[shelf].getClass().isArray()) return -12;
    return i < 0 || i >= java.lang.reflect.Array.getLength(shelves[shelf]) ? -13 : 0;
  }

  int put(int shelf, int i, long v) {
    int no = placeAnswer(shelf, i);
    if (no != 0) return no;
    Object row = shelves[shelf];
    if (row instanceof byte[] r) r[i] = (byte) v;
    if (row instanceof short[] r) r[i] = (short) v;
    if (row instanceof int[] r) r[i] = (int) v;
    if (row instanceof long[] r) r[i] = v;
    if (row instanceof boolean[] r) r[i] = v != 0;
    return 1;
  }

  long element(int shelf, int i) {
    if (placeAnswer(shelf, i) != 0) return NONE;
    Object row = shelves[shelf];
    return row instanceof boolean[] r ? (r[i] ? 1 : 0) : java.lang.reflect.Array.getLong(row, i);
  }

  int shift(int shelf, int i, int other, int j, int n) {
    if (!isShelf(shelf) || !isShelf(other)) return BAD;
    if (shelves[shelf] == null || shelves[other] == null) return -11;
    try {
      System.arraycopy(shelves[shelf], i, shelves[other], j, n);
    } catch (ArrayStoreException e) {
      return -12;
    } catch (IndexOutOfBoundsException e) {
      return -13;
    }
    return n;
  }

  int taken(int shelf, int k) {
    if (!isShelf(shelf) || k < 0 || k > 7) return BAD;
    if (shelves[shelf] == null) return -11;
    if (!KINDS[k].isInstance(shelves[shelf])) return -12;
    return Arrays.asList(KINDS).indexOf(shelves[shelf].getClass());
  }

  int count(int what) {
    return switch (what) {
      case 0 -> sacks.size();
      case 1 -> buyers.size();
      case 2 -> tape.length();
      case 3 -> undoable.size();
      case 4 -> bodies.size();
      case 5 -> ran.size();
      default -> BAD;
    };
  }
}
