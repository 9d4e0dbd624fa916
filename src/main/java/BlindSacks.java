import java.util.Arrays;

/**
 * A market of tied sacks: sellers who must not know, buyers who learn by looks.
 * README.md says how it is used; NOTES.md says how unclear words were read.
 */
public final class BlindSacks {
    public static final int BAD = -1, NOT = -2, FULL = -3, STATE = -5, VOID = -2000000000;

    private static final int NOTHING_THERE = -11, OTHER_KIND = -12, NO_PLACE = -13, SIZE_BELOW_0 = -14;
    private static final int GOODS = 6, SACKS = 10, BUYERS = 6, SHELVES = 6;
    // The numbers of mend() and of(), by their 'what'.
    private static final int PRICE = 0, SOUND = 1, IN = 4, ASKED = 5, PURSE = 6, WANTS = 7, EAR = 8, SOLD = 9, OPEN = 10;

    private final Market market = new Market();
    private final LawReader reader = new LawReader();
    private final Beliefs beliefs = new Beliefs(market);
    private final Dealing dealing = new Dealing(market);
    private final Deeds deeds = new Deeds(market);
    private final Changes changes = new Changes();
    private final Knots knots = new Knots();
    private final Shelf[] shelves = new Shelf[SHELVES];

    public BlindSacks() {
        for (int k = 0; k < SHELVES; k++) {
            shelves[k] = new Shelf();
        }
    }

    // ---- sacks, buyers

    public int sack(int good) {
        if (!market.holds(PRICE, good)) {
            return BAD;
        }
        return market.addSack(good, 10);
    }

    public int sacks(int shelf, int i, int n) {
        if (!isShelf(shelf) || n < 1 || n > SACKS) {
            return BAD;
        }
        int refused = shelves[shelf].bytesRefusal();
        if (refused == NOTHING_THERE) {
            return 0;
        }
        if (refused != 0) {
            return refused;
        }
        int came = 0;
        while (came < n && cameFrom(shelves[shelf], i + 2 * came)) {
            came++;
        }
        return came;
    }

    private boolean cameFrom(Shelf from, int place) {
        int good = from.byteAt(place);
        int asked = from.byteAt(place + 1);
        return within(IN, good) && within(ASKED, asked) && market.addSack(good, asked) >= 0;
    }

    public int buyer(int purse, int wants) {
        if (!within(PURSE, purse) || !within(WANTS, wants)) {
            return BAD;
        }
        return market.addBuyer(purse, wants);
    }

    public int mend(int number, int what, int v) {
        if (what < PRICE || what > EAR || !market.holds(what, number) || !within(what, v)) {
            return VOID;
        }
        int was = market.told(what, number);
        if (was != v) {
            market.set(what, number, v);
            changes.note(what, number, was, v);
        }
        return was;
    }

    public int of(int number, int what) {
        return market.holds(what, number) ? market.told(what, number) : VOID;
    }

    public int feed(int letter) {
        return letter < 0 || letter > 255 ? BAD : reader.take(letter);
    }

    public int law() {
        int fault = reader.read();
        if (fault >= 0) {
            return -100 - fault;
        }
        // The reader goes on with the old law's room, so that no call makes a new one.
        Law old = market.text;
        market.text = reader.swap(old);
        return 1;
    }

    public int worthOf(int buyer, int sg) {
        if (!market.holds(PURSE, buyer) || !isSackAndGood(sg)) {
            return BAD;
        }
        return market.worthTo(buyer, sg % 10, market.told(ASKED, sg / 10));
    }

    // ---- beliefs

    public long belief(int shelf, int bs, int good, int part) {
        if (!market.holds(PRICE, good) || !isPart(part) || looksRefusal(shelf, bs) != 0) {
            return Long.MIN_VALUE;
        }
        beliefs.weigh(shelves[shelf], bs / 10, bs % 10);
        return reduced(beliefs.weight(good), beliefs.total(), part);
    }

    public int likeliest(int shelf, int bs, int what) {
        int refused = isPart(what) ? looksRefusal(shelf, bs) : BAD;
        if (refused != 0) {
            return refused;
        }
        int b = bs / 10, s = bs % 10;
        beliefs.weigh(shelves[shelf], b, s);
        if (what == 0) {
            return beliefs.mostLikely();
        }
        return beliefs.worthSum(b, s) > market.told(ASKED, s) * beliefs.total() ? 1 : 0;
    }

    public long worth(int shelf, int bs, int part) {
        if (!isPart(part) || looksRefusal(shelf, bs) != 0) {
            return Long.MIN_VALUE;
        }
        beliefs.weigh(shelves[shelf], bs / 10, bs % 10);
        return reduced(beliefs.worthSum(bs / 10, bs % 10), beliefs.total(), part);
    }

    public int next(int shelf, int bs) {
        int refused = looksRefusal(shelf, bs);
        if (refused != 0) {
            return refused;
        }
        if (market.isOpen(bs % 10)) {
            return STATE;
        }
        beliefs.weigh(shelves[shelf], bs / 10, bs % 10);
        return beliefs.bestLook(bs / 10);
    }

    public long right(int shelf, int bs, int part) {
        if (!isPart(part) || looksRefusal(shelf, bs) != 0) {
            return Long.MIN_VALUE;
        }
        if (market.isOpen(bs % 10)) {
            return 1;
        }
        int b = bs / 10;
        beliefs.weigh(shelves[shelf], b, bs % 10);
        return reduced(beliefs.followed(b, beliefs.bestLook(b)), Beliefs.PARTS * beliefs.total(), part);
    }

    public int buys(int shelf, int buyer, int what) {
        if (!isShelf(shelf) || !market.holds(PURSE, buyer) || !isPart(what)) {
            return BAD;
        }
        int refused = shelves[shelf].bytesRefusal();
        if (refused != 0) {
            return refused;
        }
        dealing.noOffers();
        for (int s = 0; s < market.sackCount; s++) {
            beliefs.weigh(shelves[shelf], buyer, s);
            dealing.offer(s, beliefs.cutWorth(buyer, s));
        }
        dealing.choose(market.told(PURSE, buyer));
        return what == 0 ? dealing.chosenGain : dealing.chosenBits;
    }

    // ---- dealing, groans, stock

    public int dealt(int buyer) {
        if (buyer != -1 && !market.holds(PURSE, buyer)) {
            return BAD;
        }
        long best = dealing.bestDeal();
        return buyer == -1 ? dealing.dealtWorth(best) : dealing.dealtSack(best, buyer);
    }

    public int groan(int shelf, int what) {
        if (!isShelf(shelf) || what < 0 || what > 2) {
            return BAD;
        }
        int refused = shelves[shelf].bytesRefusal();
        return refused != 0 ? refused : groansTold(shelves[shelf], what);
    }

    private int groansTold(Shelf from, int what) {
        int differ = 0, less = 0, first = NOT;
        for (int k = 0; k < 10; k++) {
            int s = from.byteAt(2 * k), good = from.byteAt(2 * k + 1);
            if (!market.holds(IN, s) || !market.holds(PRICE, good)) {
                break;
            }
            if (good != market.told(IN, s)) {
                first = differ == 0 ? s : first;
                differ++;
            }
            if (market.groans(s, good)) {
                less++;
            }
        }
        return what == 0 ? differ : what == 1 ? less : first;
    }

    public long stock(int shelf, int sg) {
        if (!isShelf(shelf) || sg != -1 && !isSackAndGood(sg)) {
            return Long.MIN_VALUE;
        }
        if (shelves[shelf].bytesRefusal() != 0 || !dealing.stocked(shelves[shelf])) {
            return Long.MIN_VALUE;
        }
        return sg == -1 ? dealing.ways() : dealing.waysWith(sg / 10, sg % 10);
    }

    public int tells(int what) {
        if (!isPart(what)) {
            return BAD;
        }
        return what == 0 ? market.alike(7) : market.tellingBits();
    }

    public int byTurns(int bs, int n, int what) {
        if (!isBuyerAndSack(bs) || n < 1 || n > 4 || !isPart(what)) {
            return BAD;
        }
        if (!market.isFree(bs % 10)) {
            return STATE;
        }
        return what == 0 ? dealing.turnsPaid(bs / 10, bs % 10, n) : dealing.turnsRaised(bs / 10, bs % 10, n);
    }

    public int drawn(int seed, int n, int buyer, int what) {
        if (n < 1 || n > 30 || !market.holds(PURSE, buyer) || !isPart(what)) {
            return VOID;
        }
        return dealing.days(seed, n, buyer, what);
    }

    // ---- in deed

    public int sell(int sack, int buyer) {
        if (!market.holds(IN, sack) || !market.holds(PURSE, buyer)) {
            return BAD;
        }
        if (!market.isFree(sack) || market.told(PURSE, buyer) < market.told(ASKED, sack)) {
            return STATE;
        }
        return deeds.handOver(sack, buyer);
    }

    public int open(int sack) {
        if (!market.holds(IN, sack)) {
            return BAD;
        }
        if (market.isOpen(sack)) {
            return STATE;
        }
        deeds.untie(sack);
        return market.told(IN, sack);
    }

    public int dusk() {
        return deeds.untieAll();
    }

    public int led(int what) {
        return what < 0 || what >= Deeds.LINES ? BAD : deeds.line(what);
    }

    public int image() {
        deeds.keepImage();
        return deeds.line(Deeds.SALES);
    }

    public int back() {
        if (!deeds.hasImage) {
            return STATE;
        }
        deeds.layBack();
        return deeds.line(Deeds.SALES);
    }

    public int undo() {
        return changes.takeBack(market) ? changes.done : STATE;
    }

    public int redo() {
        return changes.bringBack(market) ? changes.kept - changes.done : STATE;
    }

    // ---- acts, shelves

    public int body(int kind) {
        return kind < 0 || kind >= Knots.KINDS ? BAD : knots.add(kind);
    }

    public int act(int body, int act, int x) {
        return knots.start(body, act, x);
    }

    public int trace(int i) {
        return knots.ranAt(i);
    }

    public int keep(int shelf, int body) {
        if (!isShelf(shelf) || body != -1 && !knots.has(body)) {
            return BAD;
        }
        shelves[shelf].lay(body);
        return 1;
    }

    public int row(int shelf, int sort, int n) {
        if (!isShelf(shelf) || sort < 0 || sort > Shelf.BOOLEANS || n > Shelf.MOST) {
            return BAD;
        }
        if (n < 0) {
            return SIZE_BELOW_0;
        }
        shelves[shelf].layRow(sort, n);
        return 1;
    }

    public int put(int shelf, int i, long v) {
        int refused = placeRefusal(shelf, i);
        if (refused != 0) {
            return refused;
        }
        shelves[shelf].set(i, v);
        return 1;
    }

    public long element(int shelf, int i) {
        return placeRefusal(shelf, i) != 0 ? Long.MIN_VALUE : shelves[shelf].elements[i];
    }

    public int shift(int shelf, int i, int other, int j, int n) {
        if (!isShelf(shelf) || !isShelf(other)) {
            return BAD;
        }
        Shelf from = shelves[shelf], to = shelves[other];
        if (from.holds == Shelf.NOTHING || to.holds == Shelf.NOTHING) {
            return NOTHING_THERE;
        }
        if (from.holds != Shelf.ROW || to.holds != Shelf.ROW || from.sort != to.sort) {
            return OTHER_KIND;
        }
        if (!from.hasPlaces(i, n) || !to.hasPlaces(j, n)) {
            return NO_PLACE;
        }
        System.arraycopy(from.elements, i, to.elements, j, n);
        return n;
    }

    public int taken(int shelf, int k) {
        if (!isShelf(shelf) || k < 0 || k >= Knots.KINDS) {
            return BAD;
        }
        Shelf from = shelves[shelf];
        if (from.holds == Shelf.NOTHING) {
            return NOTHING_THERE;
        }
        if (from.holds != Shelf.KNOT || !knots.isUnder(from.knot, k)) {
            return OTHER_KIND;
        }
        return knots.kindOf(from.knot);
    }

    public int count(int what) {
        switch (what) {
            case 0: return market.sackCount;
            case 1: return market.buyerCount;
            case 2: return reader.length;
            case 3: return changes.done;
            case 4: return knots.number;
            case 5: return knots.ran;
            default: return BAD;
        }
    }

    // ---- what is asked of the numbers that a call gets

    private static boolean isShelf(int shelf) {
        return shelf >= 0 && shelf < SHELVES;
    }

    private static boolean isPart(int part) {
        return part == 0 || part == 1;
    }

    private boolean isBuyerAndSack(int bs) {
        return bs >= 0 && market.holds(PURSE, bs / 10) && market.holds(IN, bs % 10);
    }

    private boolean isSackAndGood(int sg) {
        return sg >= 0 && market.holds(IN, sg / 10) && market.holds(PRICE, sg % 10);
    }

    private static boolean within(int what, int v) {
        return what >= 0 && what < Market.LEAST.length && v >= Market.LEAST[what] && v <= Market.MOST[what];
    }

    private int looksRefusal(int shelf, int bs) {
        return isShelf(shelf) && isBuyerAndSack(bs) ? shelves[shelf].bytesRefusal() : BAD;
    }

    private int placeRefusal(int shelf, int i) {
        if (!isShelf(shelf)) {
            return BAD;
        }
        Shelf at = shelves[shelf];
        if (at.holds == Shelf.NOTHING) {
            return NOTHING_THERE;
        }
        if (at.holds != Shelf.ROW) {
            return OTHER_KIND;
        }
        return at.hasPlaces(i, 1) ? 0 : NO_PLACE;
    }

    /** Part 0 (above the line) or 1 (below it) of a fraction that is not below 0, in lowest terms. */
    private static long reduced(long above, long below, int part) {
        long a = above, b = below;
        // Euclid's steps on longs are fewer than a hundred.
        for (int k = 0; k < 200 && b != 0; k++) {
            long rest = a % b;
            a = b;
            b = rest;
        }
        long wanted = part == 0 ? above : below;
        return a == 0 ? wanted : wanted / a;
    }

    /** GOODS, SACKS and BUYERS, all as numbers by 'what' and by their own number, and THE LAW. */
    private static final class Market {
        static final int[] LEAST = {0, 0, 0, 0, 0, 0, 0, 0, 1};
        static final int[] MOST = {99, 3, 3, 3, 5, 99, 999, 6, 11};
        static final int HIGHEST = 999;

        private final int[][] numbers = new int[OPEN + 1][SACKS];
        private final int[] names = new int[6];
        int sackCount;
        int buyerCount;
        Law text = new Law();

        Market() {
            for (int g = 0; g < GOODS; g++) {
                numbers[PRICE][g] = 10 * g;
            }
        }

        /** Whether there is a GOOD, SACK or BUYER of this number that has a 'what'. */
        boolean holds(int what, int number) {
            if (what < PRICE || what > OPEN || number < 0) {
                return false;
            }
            if (what < IN) {
                return number < GOODS;
            }
            return number < (what >= PURSE && what <= EAR ? buyerCount : sackCount);
        }

        int told(int what, int number) {
            return holds(what, number) ? numbers[what][number] : 0;
        }

        void set(int what, int number, int v) {
            if (holds(what, number)) {
                numbers[what][number] = v;
            }
        }

        int addSack(int good, int asked) {
            if (sackCount >= SACKS) {
                return FULL;
            }
            int s = sackCount++;
            numbers[IN][s] = good;
            numbers[ASKED][s] = asked;
            numbers[SOLD][s] = -1;
            numbers[OPEN][s] = 0;
            return s;
        }

        int addBuyer(int purse, int wants) {
            if (buyerCount >= BUYERS) {
                return FULL;
            }
            int b = buyerCount++;
            numbers[PURSE][b] = purse;
            numbers[WANTS][b] = wants;
            numbers[EAR][b] = 9;
            return b;
        }

        boolean isOpen(int s) {
            return told(OPEN, s) == 1;
        }

        boolean isFree(int s) {
            return told(SOLD, s) < 0 && !isOpen(s);
        }

        /** How many OPEN SACKS hold a GOOD. */
        int openWith(int g) {
            int found = 0;
            for (int s = 0; s < sackCount; s++) {
                found += isOpen(s) && told(IN, s) == g ? 1 : 0;
            }
            return found;
        }

        private int soldNow() {
            int sold = 0;
            for (int s = 0; s < sackCount; s++) {
                sold += numbers[SOLD][s] >= 0 ? 1 : 0;
            }
            return sold;
        }

        /** What a GOOD is worth to a BUYER, if so much is ASKED. */
        int worthTo(int b, int g, int asked) {
            int price = told(PRICE, g);
            int wanted = told(WANTS, b) == g ? 1 : 0;
            if (!text.isTold()) {
                return price + price * wanted;
            }
            names[0] = price;
            names[1] = wanted;
            names[2] = asked;
            names[3] = soldNow();
            names[4] = g;
            names[5] = b;
            return Math.max(0, Math.min(HIGHEST, text.value(names)));
        }

        /** WORTH (cut) of a SACK that is not OPEN, without LOOKS, if so much is ASKED. */
        int plainWorth(int b, int asked) {
            int sum = 0;
            for (int g = 0; g < GOODS; g++) {
                sum += worthTo(b, g, asked);
            }
            return sum / GOODS;
        }

        /** Whether a SACK is SOLD to a BUYER to whom a GOOD is worth less than ASKED. */
        boolean groans(int s, int g) {
            int b = told(SOLD, s), asked = told(ASKED, s);
            return b >= 0 && worthTo(b, g, asked) < asked;
        }

        /** How many GOODS give the same as another one by the senses of these bits. */
        int alike(int bits) {
            int alike = 0;
            for (int g = 0; g < GOODS; g++) {
                boolean twin = false;
                for (int h = 0; h < GOODS; h++) {
                    twin |= h != g && sameBy(bits, g, h);
                }
                alike += twin ? 1 : 0;
            }
            return alike;
        }

        private boolean sameBy(int bits, int g, int h) {
            for (int sense = 0; sense < 3; sense++) {
                if ((bits >> sense & 1) == 1 && told(SOUND + sense, g) != told(SOUND + sense, h)) {
                    return false;
                }
            }
            return true;
        }

        int tellingBits() {
            int best = NOT;
            for (int bits = 0; bits < 8; bits++) {
                if (alike(bits) == 0 && (best < 0 || Integer.bitCount(bits) < Integer.bitCount(best))) {
                    best = bits;
                }
            }
            return best;
        }
    }

    /** A text as steps for a stack: operands first, then their sign. */
    private static final class Law {
        static final int MOST = 128;
        static final char NUMBER = '#', NAME = 'n', MINUS = '~', LINE_END = ';', TEST = '?';

        private final char[] signs = new char[MOST];
        private final int[] operands = new int[MOST];
        private final int[] stack = new int[MOST];
        private int size;

        void clear() {
            size = 0;
        }

        void add(char sign, int operand) {
            if (size < MOST) {
                signs[size] = sign;
                operands[size] = operand;
                size++;
            }
        }

        boolean isTold() {
            return size > 0;
        }

        /** The names' numbers come in the order of LawReader.NAMES. */
        int value(int[] names) {
            int top = 0;
            boolean skips = false;
            for (int k = 0; k < size && top < MOST; k++) {
                char sign = signs[k];
                if (skips) {
                    skips = sign != LINE_END;
                } else if (sign == NUMBER) {
                    stack[top] = operands[k];
                    top++;
                } else if (sign == NAME && operands[k] >= 0 && operands[k] < names.length) {
                    stack[top] = names[operands[k]];
                    top++;
                } else if (top < 1) {
                    return 0;
                } else if (sign == LINE_END) {
                    return stack[top - 1];
                } else if (sign == TEST) {
                    top--;
                    skips = stack[top] == 0;
                } else if (sign == '!' || sign == MINUS) {
                    stack[top - 1] = sign == MINUS ? -stack[top - 1] : stack[top - 1] == 0 ? 1 : 0;
                } else if (top < 2) {
                    return 0;
                } else {
                    top--;
                    stack[top - 1] = joined(sign, stack[top - 1], stack[top]);
                }
            }
            return 0;
        }

        private static int joined(char sign, int a, int b) {
            switch (sign) {
                case '|': return a != 0 || b != 0 ? 1 : 0;
                case '&': return a != 0 && b != 0 ? 1 : 0;
                case '<': return a < b ? 1 : 0;
                case '=': return a == b ? 1 : 0;
                case '>': return a > b ? 1 : 0;
                case '+': return a + b;
                case '-': return a - b;
                case '*': return a * b;
                case '/': return b == 0 ? 0 : a / b;
                case '%': return b == 0 ? 0 : a % b;
                default: return 0;
            }
        }
    }

    /** THE TAPE, and how it is read. */
    private static final class LawReader {
        static final String NAMES = "pwasgb";
        private static final int MOST = 120, END = -1, NONE = -1;
        private static final int COMPARED = 2, OPERAND = 5, MOST_OPEN = 6, MOST_DIGITS = 4;

        private final char[] tape = new char[MOST];
        private Law made = new Law();
        private int at;
        private int fault;
        int length;

        int take(int letter) {
            if (length >= MOST) {
                return FULL;
            }
            tape[length] = (char) letter;
            length++;
            return length;
        }

        Law swap(Law old) {
            Law read = made;
            made = old;
            return read;
        }

        /** The FAULT of THE TAPE, which is empty then; NONE, if it is a TEXT. */
        int read() {
            made.clear();
            at = 0;
            fault = NONE;
            boolean more = true;
            for (int lines = 0; lines <= MOST && more && fault == NONE; lines++) {
                line();
                more = passes(';');
            }
            if (fault == NONE && ahead() != END) {
                fault = at;
            }
            length = 0;
            return fault;
        }

        private void line() {
            level(0, 0);
            if (passes('?')) {
                made.add(Law.TEST, 0);
                level(0, 0);
            }
            made.add(Law.LINE_END, 0);
        }

        private int ahead() {
            return at < length ? tape[at] : END;
        }

        private boolean passes(char wanted) {
            boolean is = fault == NONE && ahead() == wanted;
            at += is ? 1 : 0;
            return is;
        }

        private static boolean joins(int level, int sign) {
            switch (level) {
                case 0: return sign == '|';
                case 1: return sign == '&';
                case COMPARED: return sign == '<' || sign == '=' || sign == '>';
                case 3: return sign == '+' || sign == '-';
                case 4: return sign == '*' || sign == '/' || sign == '%';
                default: return false;
            }
        }

        /** E is level 0, A 1, B 2, S 3, P 4, O 5; 'open' counts the ( ! - that stand open. */
        private void level(int level, int open) {
            if (level >= OPERAND) {
                operand(open);
                return;
            }
            level(level + 1, open);
            int most = level == COMPARED ? 1 : MOST;
            for (int k = 0; k < most && fault == NONE && joins(level, ahead()); k++) {
                char sign = tape[at];
                at++;
                level(level + 1, open);
                made.add(sign, 0);
            }
        }

        private void operand(int open) {
            int sign = ahead();
            if (fault != NONE) {
                return;
            }
            if (sign >= '0' && sign <= '9') {
                number();
            } else if (sign > 0 && NAMES.indexOf((char) sign) >= 0) {
                made.add(Law.NAME, NAMES.indexOf((char) sign));
                at++;
            } else if (open < MOST_OPEN && (sign == '(' || sign == '!' || sign == '-')) {
                at++;
                opened((char) sign, open + 1);
            } else {
                fault = at;
            }
        }

        private void opened(char sign, int open) {
            if (sign == '(') {
                level(0, open);
                if (!passes(')') && fault == NONE) {
                    fault = at;
                }
                return;
            }
            operand(open);
            made.add(sign == '-' ? Law.MINUS : sign, 0);
        }

        private void number() {
            int value = 0;
            for (int k = 0; k < MOST_DIGITS && ahead() >= '0' && ahead() <= '9'; k++) {
                value = 10 * value + ahead() - '0';
                at++;
            }
            made.add(Law.NUMBER, value);
        }
    }

    /** What a BUYER believes of one SACK: how likely each GOOD is, as whole weights. */
    private static final class Beliefs {
        /** A LOOK's likelihoods are whole in parts of 36. */
        static final int PARTS = 36;
        private static final int MOST_LOOKS = 6, SENSES = 3, ANSWERS = 4, NO_LOOK = 3;

        private final Market market;
        private final long[] weights = new long[GOODS];

        Beliefs(Market market) {
            this.market = market;
        }

        void weigh(Shelf looks, int b, int s) {
            if (market.isOpen(s)) {
                know(market.told(IN, s));
                return;
            }
            Arrays.fill(weights, 1);
            for (int k = 0; k < MOST_LOOKS; k++) {
                int sack = looks.byteAt(3 * k), sense = looks.byteAt(3 * k + 1), seemed = looks.byteAt(3 * k + 2);
                if (!market.holds(IN, sack) || sense < 0 || sense >= SENSES || seemed < 0 || seemed >= ANSWERS) {
                    break;
                }
                if (sack == s) {
                    learn(b, sense, seemed);
                }
            }
        }

        private void know(int good) {
            for (int g = 0; g < GOODS; g++) {
                weights[g] = g == good ? 1 : 0;
            }
        }

        private void learn(int b, int sense, int seemed) {
            for (int g = 0; g < GOODS; g++) {
                weights[g] *= seeming(b, g, sense, seemed);
            }
        }

        private int seeming(int b, int g, int sense, int seemed) {
            int ear = market.told(EAR, b);
            return market.told(SOUND + sense, g) == seemed ? 3 * ear : 12 - ear;
        }

        long weight(int g) {
            return weights[g];
        }

        long total() {
            long sum = 0;
            for (int g = 0; g < GOODS; g++) {
                sum += weights[g];
            }
            return sum;
        }

        int mostLikely() {
            int best = 0;
            for (int g = 1; g < GOODS; g++) {
                best = weights[g] > weights[best] ? g : best;
            }
            return best;
        }

        /** WORTH, times the total of the weights. */
        long worthSum(int b, int s) {
            long sum = 0;
            int asked = market.told(ASKED, s);
            for (int g = 0; g < GOODS; g++) {
                sum += weights[g] * market.worthTo(b, g, asked);
            }
            return sum;
        }

        int cutWorth(int b, int s) {
            long total = total();
            return total == 0 ? 0 : (int) (worthSum(b, s) / total);
        }

        int bestLook(int b) {
            int best = NO_LOOK;
            for (int sense = 0; sense < SENSES; sense++) {
                best = followed(b, sense) > followed(b, best) ? sense : best;
            }
            return best;
        }

        /** How likely he is right behind one more look of a sense, times PARTS and the total of the weights. */
        long followed(int b, int sense) {
            if (sense == NO_LOOK) {
                return PARTS * weights[mostLikely()];
            }
            long sum = 0;
            for (int answer = 0; answer < ANSWERS; answer++) {
                long most = 0;
                for (int g = 0; g < GOODS; g++) {
                    most = Math.max(most, weights[g] * seeming(b, g, sense, answer));
                }
                sum += most;
            }
            return sum;
        }
    }

    /** What is reckoned of SACKS and BUYERS without a deed: buying, dealing, stock, turns, days. */
    private static final class Dealing {
        // DEALT in one number: the worth of all, and behind it by BUYERS a digit of 11, 10 less the SACK; 0: none.
        // The first BUYER's digit weighs most, so that of like deals the greatest number is the first by BUYERS.
        private static final int DIGIT = 11, DIGITS = 1771561;
        private static final int[] PLACES = {161051, 14641, 1331, 121, 11, 1};
        private static final long NO_DEAL = -1;
        // BY TURNS in one number: what is paid, and behind it in three digits what the BUYER gains; 0: not bought.
        private static final int OUTCOME = 1000, MOST_TURNS = 4;

        private final Market market;
        private final int[] gains = new int[SACKS];
        private final long[] deals = new long[1 << BUYERS];
        private final int[] left = new int[GOODS];
        int chosenBits;
        int chosenGain;

        Dealing(Market market) {
            this.market = market;
        }

        void noOffers() {
            Arrays.fill(gains, 0);
        }

        void offer(int s, int worth) {
            if (market.isFree(s)) {
                gains[s] = worth - market.told(ASKED, s);
            }
        }

        /** Sets chosenBits and chosenGain to the best of the offers for a PURSE. */
        void choose(int purse) {
            chosenBits = 0;
            chosenGain = 0;
            choose(0, 0, 0, purse);
        }

        private void choose(int s, int bits, int gain, int purse) {
            if (s >= SACKS) {
                if (isBetter(bits, gain)) {
                    chosenBits = bits;
                    chosenGain = gain;
                }
                return;
            }
            choose(s + 1, bits, gain, purse);
            // One that gains nothing is never among the fewest.
            if (gains[s] > 0 && market.told(ASKED, s) <= purse) {
                choose(s + 1, bits | 1 << s, gain + gains[s], purse - market.told(ASKED, s));
            }
        }

        private boolean isBetter(int bits, int gain) {
            if (gain != chosenGain) {
                return gain > chosenGain;
            }
            int fewer = Integer.bitCount(chosenBits) - Integer.bitCount(bits);
            return fewer > 0 || fewer == 0 && bits < chosenBits;
        }

        long bestDeal() {
            Arrays.fill(deals, NO_DEAL);
            deals[0] = 0;
            for (int s = 0; s < market.sackCount; s++) {
                if (market.isFree(s)) {
                    dealOne(s);
                }
            }
            long best = 0;
            for (int served = 0; served < deals.length; served++) {
                best = Math.max(best, deals[served]);
            }
            return best;
        }

        private void dealOne(int s) {
            int asked = market.told(ASKED, s);
            for (int b = 0; b < market.buyerCount; b++) {
                gains[b] = market.plainWorth(b, asked) - asked;
            }
            // Downwards, so that what this SACK has served is not served by it again.
            for (int served = deals.length - 1; served >= 0; served--) {
                for (int b = 0; b < market.buyerCount && deals[served] != NO_DEAL; b++) {
                    if ((served >> b & 1) == 0 && gains[b] >= 0) {
                        int then = served | 1 << b;
                        long deal = deals[served] + (long) gains[b] * DIGITS + (SACKS - s) * PLACES[b];
                        deals[then] = Math.max(deals[then], deal);
                    }
                }
            }
        }

        int dealtWorth(long deal) {
            return (int) (deal / DIGITS);
        }

        int dealtSack(long deal, int b) {
            long behind = deal;
            for (int later = b + 1; later < BUYERS; later++) {
                behind /= DIGIT;
            }
            int digit = (int) (behind % DIGIT);
            return digit == 0 ? NOT : SACKS - digit;
        }

        /** Takes the ROW's GOODS less those in OPEN SACKS; whether the ROW is as said. */
        boolean stocked(Shelf from) {
            if (from.length != GOODS) {
                return false;
            }
            for (int g = 0; g < GOODS; g++) {
                left[g] = from.byteAt(g);
                if (left[g] < 0 || left[g] > 9) {
                    return false;
                }
                left[g] -= market.openWith(g);
            }
            return true;
        }

        private int tied() {
            int tied = 0;
            for (int s = 0; s < market.sackCount; s++) {
                tied += market.isOpen(s) ? 0 : 1;
            }
            return tied;
        }

        long ways() {
            return waysOf(tied());
        }

        long waysWith(int s, int g) {
            if (market.isOpen(s)) {
                return market.told(IN, s) == g ? ways() : 0;
            }
            left[g]--;
            return waysOf(tied() - 1);
        }

        /** In how many ways so many SACKS hold what is left; 0, if it does not come out even. */
        private long waysOf(int sacks) {
            long ways = 1;
            int free = sacks;
            for (int g = 0; g < GOODS; g++) {
                if (left[g] < 0 || left[g] > free) {
                    return 0;
                }
                for (int k = 1; k <= left[g]; k++) {
                    ways = ways * (free - k + 1) / k;
                }
                free -= left[g];
            }
            return free == 0 ? ways : 0;
        }

        int turnsPaid(int b, int s, int n) {
            return paid(outcome(b, market.told(ASKED, s), 0, n));
        }

        int turnsRaised(int b, int s, int n) {
            int asked = market.told(ASKED, s);
            int let = outcome(b, asked, 1, n);
            int raised = outcome(b, moved(asked, true), 1, n);
            return paid(raised) > paid(let) ? 1 : 0;
        }

        private static int paid(int outcome) {
            return outcome / OUTCOME;
        }

        private static int gained(int outcome) {
            return outcome % OUTCOME;
        }

        private static int moved(int asked, boolean bySeller) {
            return bySeller ? Math.min(Market.MOST[ASKED], asked + 10) : Math.max(0, asked - 10);
        }

        /** What comes of so much ASKED ahead of a turn, of n in all, as both do their best. */
        private int outcome(int b, int asked, int turn, int n) {
            if (turn >= n || turn >= MOST_TURNS) {
                return sale(b, asked);
            }
            boolean sells = turn % 2 == 0;
            int let = outcome(b, asked, turn + 1, n);
            int other = outcome(b, moved(asked, sells), turn + 1, n);
            boolean moves = sells ? paid(other) > paid(let) : gained(other) > gained(let);
            return moves ? other : let;
        }

        /** Behind the turns: WORTH is by what is ASKED then, for THE LAW may go by it. */
        private int sale(int b, int asked) {
            int worth = market.plainWorth(b, asked);
            return worth >= asked && market.told(PURSE, b) >= asked ? asked * OUTCOME + worth - asked : 0;
        }

        int days(int seed, int n, int b, int what) {
            int z = seed, bought = 0, gain = 0;
            for (int day = 0; day < n; day++) {
                int purse = market.told(PURSE, b);
                for (int s = 0; s < market.sackCount; s++) {
                    if (!market.isFree(s)) {
                        continue;
                    }
                    z = z * 1103515245 + 12345;
                    int asked = market.told(ASKED, s);
                    if (purse >= asked && market.worthTo(b, (z >>> 8) % GOODS, asked) >= asked) {
                        purse -= asked;
                        bought++;
                        gain += market.worthTo(b, market.told(IN, s), asked) - asked;
                    }
                }
            }
            return what == 0 ? bought : gain;
        }
    }

    /** What is done in deed, what is LED of it, and AN IMAGE. */
    private static final class Deeds {
        static final int SALES = 0, PAID = 1, OPENED = 2, GROANS = 3, DUSKS = 4, LINES = 5;

        private final Market market;
        private final int[] lines = new int[LINES];
        private final int[] keptLines = new int[LINES];
        private final int[] keptSold = new int[SACKS];
        private final int[] keptOpen = new int[SACKS];
        private final int[] keptPurses = new int[BUYERS];
        private int keptSacks;
        private int keptBuyers;
        boolean hasImage;

        Deeds(Market market) {
            this.market = market;
        }

        int line(int what) {
            return lines[what];
        }

        int handOver(int s, int b) {
            int asked = market.told(ASKED, s);
            int purse = market.told(PURSE, b) - asked;
            market.set(PURSE, b, purse);
            market.set(SOLD, s, b);
            lines[SALES]++;
            lines[PAID] += asked;
            return purse;
        }

        void untie(int s) {
            market.set(OPEN, s, 1);
            lines[OPENED]++;
            lines[GROANS] += market.groans(s, market.told(IN, s)) ? 1 : 0;
        }

        int untieAll() {
            int before = lines[GROANS];
            for (int s = 0; s < market.sackCount; s++) {
                if (!market.isOpen(s)) {
                    untie(s);
                }
            }
            lines[DUSKS]++;
            return lines[GROANS] - before;
        }

        void keepImage() {
            keptSacks = market.sackCount;
            keptBuyers = market.buyerCount;
            for (int s = 0; s < keptSacks; s++) {
                keptSold[s] = market.told(SOLD, s);
                keptOpen[s] = market.told(OPEN, s);
            }
            for (int b = 0; b < keptBuyers; b++) {
                keptPurses[b] = market.told(PURSE, b);
            }
            System.arraycopy(lines, 0, keptLines, 0, LINES);
            hasImage = true;
        }

        void layBack() {
            for (int s = 0; s < keptSacks; s++) {
                market.set(SOLD, s, keptSold[s]);
                market.set(OPEN, s, keptOpen[s]);
            }
            for (int b = 0; b < keptBuyers; b++) {
                market.set(PURSE, b, keptPurses[b]);
            }
            System.arraycopy(keptLines, 0, lines, 0, LINES);
        }
    }

    /** CHANGES by mend(): the first 'done' of those kept stand, the others are UNDONE. */
    private static final class Changes {
        private static final int MOST = 40;

        private final int[] whats = new int[MOST];
        private final int[] numbers = new int[MOST];
        private final int[] before = new int[MOST];
        private final int[] behind = new int[MOST];
        int done;
        int kept;

        void note(int what, int number, int was, int becomes) {
            if (done >= MOST) {
                forgetFirst();
            }
            whats[done] = what;
            numbers[done] = number;
            before[done] = was;
            behind[done] = becomes;
            done++;
            kept = done;
        }

        private void forgetFirst() {
            System.arraycopy(whats, 1, whats, 0, MOST - 1);
            System.arraycopy(numbers, 1, numbers, 0, MOST - 1);
            System.arraycopy(before, 1, before, 0, MOST - 1);
            System.arraycopy(behind, 1, behind, 0, MOST - 1);
            done = MOST - 1;
        }

        boolean takeBack(Market market) {
            if (done <= 0) {
                return false;
            }
            done--;
            market.set(whats[done], numbers[done], before[done]);
            return true;
        }

        boolean bringBack(Market market) {
            if (done >= kept) {
                return false;
            }
            market.set(whats[done], numbers[done], behind[done]);
            done++;
            return true;
        }
    }

    /** BODIES, the bodies of their acts, and THE TRACE. */
    private static final class Knots {
        static final int KINDS = 8;
        private static final int MOST = 50, MOST_TRACED = 24, ACTS = 4, MOST_DEEP = 40;
        private static final int TIES = 0, SELLS = 1, SHAKES = 2, TELLS = 3;
        // By KINDS: KNOT, VOICE, TIER, CORPSE, CHINA, DRUM, CAT, CHEESE.
        private static final int[] ABOVE = {-1, 0, 0, 2, 1, 3, 0, 4};
        // By KINDS, four acts each; 0: the KIND has no body of its own for the act.
        private static final int[] OWN = {
            1, 10, 11, 2,
            20, 0, 0, 0,
            0, 30, 0, 0,
            0, 41, 40, 0,
            0, 0, 50, 0,
            0, 0, 0, 60,
            70, 0, 0, 0,
            0, 80, 0, 81,
        };

        private final int[] kinds = new int[MOST];
        private final int[] traced = new int[MOST_TRACED];
        private int self;
        int number;
        int ran;

        int add(int kind) {
            if (number >= MOST) {
                return FULL;
            }
            kinds[number] = kind;
            number++;
            return number - 1;
        }

        boolean has(int knot) {
            return knot >= 0 && knot < number;
        }

        int kindOf(int knot) {
            return has(knot) ? kinds[knot] : -1;
        }

        boolean isUnder(int knot, int kind) {
            int k = kindOf(knot);
            for (int steps = 0; steps < KINDS && k >= 0 && k != kind; steps++) {
                k = ABOVE[k];
            }
            return k == kind;
        }

        int start(int knot, int what, int x) {
            ran = 0;
            if (!has(knot) || what < 0 || what >= ACTS) {
                return 0;
            }
            self = knot;
            return run(kinds[knot], what, x, 0);
        }

        int ranAt(int i) {
            return i < 0 || i >= ran || i >= MOST_TRACED ? BAD : traced[i];
        }

        private static int ownerOf(int from, int what) {
            int k = from;
            for (int steps = 0; steps < KINDS && k >= 0 && OWN[ACTS * k + what] == 0; steps++) {
                k = ABOVE[k];
            }
            return k;
        }

        private void note(int ranNow) {
            if (ran < MOST_TRACED) {
                traced[ran] = ranNow;
            }
            ran++;
        }

        /** Runs the body of an act that the KIND 'from', or the next above it, has. */
        private int run(int from, int what, int x, int deep) {
            int owner = ownerOf(from, what);
            if (owner < 0 || deep > MOST_DEEP) {
                return 0;
            }
            int own = kinds[self], above = ABOVE[owner], then = deep + 1;
            int ranNow = OWN[ACTS * owner + what];
            note(ranNow);
            switch (ranNow) {
                case 1: return x + self;
                case 10: return run(own, TIES, x, then) * 2;
                case 11: return x ^ self;
                case 2: return run(own, SELLS, x, then) - run(own, SHAKES, 1, then);
                case 20: return run(above, TIES, x, then) + 3;
                case 30: return -run(above, SELLS, x, then);
                case 40: return run(above, SHAKES, x, then) * 3;
                case 41: return run(above, SELLS, x + 1, then);
                case 50: return run(above, SHAKES, x, then) - run(own, TIES, 2, then);
                case 60: return run(above, TELLS, x, then) ^ 5;
                case 70: return run(above, TIES, x, then) * 2;
                case 80: return run(above, SELLS, x, then) + run(own, SHAKES, 2, then);
                case 81: return run(above, TELLS, x, then) - 1;
                default: return 0;
            }
        }
    }

    /** Nothing, a KNOT, or a ROW; its elements are used again by every ROW laid on it. */
    private static final class Shelf {
        static final int NOTHING = 0, KNOT = 1, ROW = 2;
        static final int BYTES = 0, SHORTS = 1, INTS = 2, BOOLEANS = 4, MOST = 60;
        /** What byteAt() answers where the ROW lacks a byte: no byte. */
        static final int LACKS = -1000;

        final long[] elements = new long[MOST];
        int holds = NOTHING;
        int knot;
        int sort;
        int length;

        void lay(int body) {
            holds = body < 0 ? NOTHING : KNOT;
            knot = body;
        }

        void layRow(int newSort, int n) {
            holds = ROW;
            sort = newSort;
            length = n;
            Arrays.fill(elements, 0);
        }

        int bytesRefusal() {
            if (holds == NOTHING) {
                return NOTHING_THERE;
            }
            return holds == ROW && sort == BYTES ? 0 : OTHER_KIND;
        }

        int byteAt(int i) {
            return hasPlaces(i, 1) ? (int) elements[i] : LACKS;
        }

        boolean hasPlaces(int i, int n) {
            return i >= 0 && n >= 0 && n <= length && i <= length - n;
        }

        void set(int i, long v) {
            if (hasPlaces(i, 1)) {
                elements[i] = fitted(v);
            }
        }

        private long fitted(long v) {
            switch (sort) {
                case BYTES: return (byte) v;
                case SHORTS: return (short) v;
                case INTS: return (int) v;
                case BOOLEANS: return v != 0 ? 1 : 0;
                default: return v;
            }
        }
    }
}
