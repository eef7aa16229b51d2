import java.util.Arrays;

/** One letter with places that may be put so or so, its copies, and what prints tell of them. */
public final class CommaCopies {
    public static final int BAD = -1, NOT = -2, FULL = -3, NONE = -4, NULL = -11, CAST = -12, INDEX = -13, SIZE = -14;

    private static final int FAULT = -20;
    private static final int PLACES = 6;
    private static final int CHOICES = 4;
    private static final int CHOICE_BYTES = 8;
    private static final int COPIES = 8;
    private static final int PASTS = 6;
    private static final int TAPE_BYTES = 120;
    private static final int MOST_JOIN = 3;
    private static final int LEFT_OUT = 4;
    private static final int LOST = 5;
    private static final int MIX = 0, ANY = 1, LEAVE = 2;
    private static final int FRAMED = 0, APART = 1, NAMED = 2;
    private static final int TOP_COST = 9;
    private static final int TOP_BAR = 6;
    private static final int TOP_Q = 9999;
    private static final int SHEETS = 4;
    private static final int LANES = 3;
    private static final int ITEMS = 12;

    // How many sets of 1 to 3 there are of 8 COPIES: 8 + 28 + 56.
    private static final int SETS = 92;

    // What a set CAN fits one int: a GROUP of five bits a PLACE, one for each value 0 .. 4.
    private static final int GROUP = 5;
    private static final int WHOLE_GROUP = 31;
    private static final int ONES = 1 | 1 << 5 | 1 << 10 | 1 << 15 | 1 << 20 | 1 << 25;
    private static final int LOWS = 15 * ONES;
    private static final int HIGHS = 16 * ONES;

    private final Tape tape = new Tape();
    private final State now = new State();
    private final State kept = new State();
    private final Sheets sheets = new Sheets();
    private final Laws laws = new Laws();
    private final Joins joins = laws.joins;
    private final Matcher matcher = new Matcher();
    private final Chance chance = new Chance();
    private final Hiding hiding = new Hiding();
    private final int[] scratchRow = new int[PLACES];
    private boolean imaged;

    public CommaCopies() {
        imaged = false;
    }

    // ---- 1 the letter, copies

    public int type(long w, int n) {
        return tape.append(w, n);
    }

    public int letter() {
        int fault = Letter.faultAt(tape.bytes, tape.length);
        if (fault < 0) {
            now.begin(tape);
        }
        tape.length = 0;
        return fault < 0 ? now.letter.places : FAULT - fault;
    }

    public int choices(int place) {
        return now.letter.isPlace(place) ? now.letter.choiceCounts[place] : BAD;
    }

    public int cost(int place, int choice, int v) {
        if (!now.letter.isChoice(place, choice) || v < 0 || v > TOP_COST) {
            return BAD;
        }
        int slot = place * CHOICES + choice;
        int was = now.costs[slot];
        now.costs[slot] = v;
        return was;
    }

    public int mended(int place, int choice) {
        if (!now.letter.isPlace(place) || choice != -1 && !now.letter.isChoice(place, choice)) {
            return BAD - 100;
        }
        int was = now.mends[place];
        now.mends[place] = choice;
        return was;
    }

    public int copyOf(int sheet, int lane, int i) {
        int refusal = sheets.refusal(sheet, lane, i, now.letter.places);
        if (refusal < 0) {
            return refusal;
        }
        return now.addCopy(sheets.items, sheet * ITEMS + i);
    }

    public int choice(int copy, int place) {
        if (!now.isCopy(copy) || !now.letter.isPlace(place)) {
            return BAD;
        }
        return now.rows[copy * PLACES + place];
    }

    public int burn(int copy) {
        if (!now.isCopy(copy)) {
            return BAD;
        }
        int behind = now.copies - copy - 1;
        System.arraycopy(now.rows, (copy + 1) * PLACES, now.rows, copy * PLACES, behind * PLACES);
        now.copies--;
        return now.copies;
    }

    public int reads(int copy, int i) {
        if (!now.isCopy(copy) || i < 0) {
            return BAD;
        }
        return now.letter.byteAt(now.rows, copy * PLACES, i);
    }

    public int costOf(int copy) {
        return now.isCopy(copy) ? now.sumCosts(copy) : BAD;
    }

    public int set(int what, int v) {
        if (what == 0 && v >= 1 && v <= MOST_JOIN) {
            int was = now.most;
            now.most = v;
            return was;
        }
        if (what == 1 && v >= MIX && v <= LEAVE) {
            int was = now.how;
            now.how = v;
            return was;
        }
        return BAD;
    }

    public int count(int what) {
        switch (what) {
            case 0: return now.letter.places;
            case 1: return now.copies;
            case 2: return now.pastCount;
            case 3: return now.letter.length;
            case 4: return tryPrint().found;
            case 5: return now.countLost();
            default: return BAD;
        }
    }

    // ---- 2 prints

    public int print(int place, int v) {
        if (!now.letter.isChoice(place, v) && !(now.letter.isPlace(place) && (v == LEFT_OUT || v == LOST))) {
            return BAD;
        }
        int was = now.printValues[place];
        now.printValues[place] = v;
        return was;
    }

    public int printed() {
        int length = tape.length;
        // The document says of both refusals that THE TAPE is empty then.
        tape.length = 0;
        if (!now.letter.there) {
            return NOT;
        }
        return matcher.match(now.letter, tape.bytes, length, now.printValues) ? 1 : NONE;
    }

    public int could(int set) {
        if (!now.isSet(set)) {
            return BAD;
        }
        int wanted = now.bitsOf(now.printValues, 0);
        return (wanted & ~lookNow().canOf(set)) == 0 ? 1 : 0;
    }

    public int maker(int i) {
        if (i < 0) {
            return BAD;
        }
        lookNow().list();
        return joins.madeBy(now.bitsOf(now.printValues, 0), i);
    }

    public int blamed(int what) {
        if (what != 0 && what != 1) {
            return BAD;
        }
        Joins tried = tryPrint();
        return what == 0 ? tried.sure : tried.maybe;
    }

    public int unjust(int set) {
        if (!now.isSet(set)) {
            return BAD;
        }
        Joins tried = tryPrint();
        if (tried.found == 0) {
            return NOT;
        }
        int wronged = set & ~tried.sure;
        return wronged == 0 ? NONE : Integer.numberOfTrailingZeros(wronged);
    }

    // ---- 3 laws

    public int holds(int law) {
        if (law < FRAMED || law > NAMED) {
            return BAD;
        }
        return breaks(law) ? 0 : 1;
    }

    public int breach(int law, int what) {
        boolean known = law == NAMED ? now.letter.isPlace(what)
            : (law == FRAMED || law == APART) && (what == 0 || what == 1);
        if (!known) {
            return BAD;
        }
        if (!breaks(law)) {
            return NONE;
        }
        if (law == NAMED) {
            return laws.row[what];
        }
        return what == 0 ? laws.first : laws.second;
    }

    public int fewest(int law) {
        if (law < FRAMED || law > NAMED) {
            return BAD;
        }
        // More PLACES never break a LAW that fewer keep: if all of them don't do, none do.
        if (breaks(law)) {
            return NONE;
        }
        int all = now.letter.allPlaces();
        for (int size = 0; size <= now.letter.places; size++) {
            for (int set = 0; set <= all; set++) {
                if (Integer.bitCount(set) == size && !laws.broken(law, set)) {
                    return set;
                }
            }
        }
        return NONE;
    }

    public int more(int law, int place) {
        if (law != FRAMED && law != APART || !now.letter.isPlace(place)) {
            return BAD;
        }
        if (now.copies >= COPIES) {
            return FULL;
        }
        // A COPY more leaves every breach that is there.
        if (breaks(law)) {
            return NONE;
        }
        int rows = now.letter.countRows();
        for (int k = 0; k < rows; k++) {
            now.letter.rowAt(k, scratchRow);
            if (laws.admits(law, now.bitsOf(scratchRow, 0))) {
                return scratchRow[place];
            }
        }
        return NONE;
    }

    // ---- 4 chance, reading, hiding, the past

    public int score(int copy) {
        return now.isCopy(copy) ? now.matches(copy) : BAD;
    }

    public int wrong(int bar, int part) {
        if (bar < 0 || bar > TOP_BAR || part != 0 && part != 1) {
            return BAD;
        }
        if (!now.letter.there) {
            return NOT;
        }
        chance.spread(now);
        return chance.reduced(bar, part);
    }

    public int bar(int q) {
        if (q < 1 || q > TOP_Q) {
            return BAD;
        }
        if (!now.letter.there) {
            return NOT;
        }
        chance.spread(now);
        return chance.leastBar(q);
    }

    public int put(int place, int choice) {
        if (!now.letter.isChoice(place, choice)) {
            return BAD;
        }
        return State.standsFor(now.bestOrder(place), choice);
    }

    public int putAll() {
        if (!now.letter.there) {
            return NOT;
        }
        for (int p = 0; p < now.letter.places; p++) {
            now.reorder(p, now.bestOrder(p));
        }
        int sum = 0;
        for (int c = 0; c < now.copies; c++) {
            sum += now.sumCosts(c);
        }
        return sum;
    }

    public int hidden(int set, int what) {
        if (!now.isSet(set) || what != -1 && !now.letter.isPlace(what)) {
            return BAD;
        }
        hiding.seek(lookNow(), set, now.letter.places);
        return what == -1 ? hiding.least : hiding.best[what];
    }

    public int keep() {
        return now.letter.there ? now.addPast() : NOT;
    }

    public int past(int copy, int what) {
        if (!now.isCopy(copy) || what != 0 && what != 1) {
            return BAD;
        }
        int times = 0;
        for (int k = 0; k < now.pastCount; k++) {
            joins.look(now, now.pastMost[k], now.pastHow[k]);
            joins.list();
            joins.suspect(now.bitsOf(now.pasts, k * PLACES));
            int those = what == 0 ? joins.sure : joins.maybe;
            times += (those >> copy) & 1;
        }
        return times;
    }

    public int image() {
        kept.takeFrom(now);
        imaged = true;
        return 1;
    }

    public int restore() {
        if (!imaged) {
            return NONE;
        }
        now.takeFrom(kept);
        return 1;
    }

    // ---- 5 sheets

    public int sheet(int sheet, int lane, int n) {
        return sheets.lay(sheet, lane, n);
    }

    public int drop(int sheet) {
        return sheets.remove(sheet);
    }

    public int item(int sheet, int lane, int i, int v) {
        int refusal = sheets.refusal(sheet, lane, i, 1);
        if (refusal < 0) {
            return refusal;
        }
        sheets.items[sheet * ITEMS + i] = Sheets.narrowed(lane, v);
        return 1;
    }

    public int copy(int from, int i, int to, int j, int n) {
        return sheets.move(from, i, to, j, n);
    }

    private Joins lookNow() {
        joins.look(now, now.most, now.how);
        return joins;
    }

    private Joins tryPrint() {
        lookNow().list();
        joins.suspect(now.bitsOf(now.printValues, 0));
        return joins;
    }

    private boolean breaks(int law) {
        lookNow().list();
        if (law == NAMED) {
            laws.mark();
        }
        return laws.broken(law, now.letter.allPlaces());
    }

    /** THE TAPE: what has been typed and not been used yet. */
    private static final class Tape {
        private final byte[] bytes = new byte[TAPE_BYTES];
        private int length;

        private int append(long w, int n) {
            if (n < 1 || n > 8) {
                return BAD;
            }
            for (int k = 0; k < n; k++) {
                if (byteOf(w, k) < 32 || byteOf(w, k) > 126) {
                    return BAD;
                }
            }
            if (length > TAPE_BYTES - n) {
                return FULL;
            }
            for (int k = n - 1; k >= 0; k--) {
                bytes[length] = (byte) byteOf(w, k);
                length++;
            }
            return length;
        }

        private static int byteOf(long w, int k) {
            return (int) (w >>> (8 * k)) & 255;
        }
    }

    /** THE LETTER: its bytes, and where its CHOICES stand in them. */
    private static final class Letter {
        private final byte[] bytes = new byte[TAPE_BYTES];
        private final int[] choiceCounts = new int[PLACES];
        private final int[] starts = new int[PLACES * CHOICES];
        private final int[] ends = new int[PLACES * CHOICES];
        private boolean there;
        private int length;
        private int places;

        /** Where the first byte is that can't stand there, or -1. */
        private static int faultAt(byte[] text, int n) {
            int opened = 0;
            int slashes = -1;
            int run = 0;
            for (int i = 0; i < n; i++) {
                int b = text[i];
                if (b == '[') {
                    if (slashes >= 0 || opened == PLACES) {
                        return i;
                    }
                    opened++;
                    slashes = 0;
                    run = 0;
                } else if (b == '/') {
                    if (slashes < 0 || slashes == CHOICES - 1) {
                        return i;
                    }
                    slashes++;
                    run = 0;
                } else if (b == ']') {
                    if (slashes < 1) {
                        return i;
                    }
                    slashes = -1;
                } else if (slashes >= 0) {
                    if (run == CHOICE_BYTES) {
                        return i;
                    }
                    run++;
                }
            }
            return slashes >= 0 || n == 0 ? n : -1;
        }

        /** Takes a text that has no fault. */
        private void read(byte[] text, int n) {
            there = true;
            places = 0;
            length = n;
            System.arraycopy(text, 0, bytes, 0, n);
            int slot = 0;
            for (int i = 0; i < n; i++) {
                int b = text[i];
                if (b == '[') {
                    slot = places * CHOICES;
                    starts[slot] = i + 1;
                } else if (b == '/') {
                    ends[slot] = i;
                    slot++;
                    starts[slot] = i + 1;
                } else if (b == ']') {
                    ends[slot] = i;
                    choiceCounts[places] = slot - places * CHOICES + 1;
                    places++;
                }
            }
        }

        private void takeFrom(Letter other) {
            System.arraycopy(other.bytes, 0, bytes, 0, TAPE_BYTES);
            System.arraycopy(other.choiceCounts, 0, choiceCounts, 0, PLACES);
            System.arraycopy(other.starts, 0, starts, 0, PLACES * CHOICES);
            System.arraycopy(other.ends, 0, ends, 0, PLACES * CHOICES);
            there = other.there;
            length = other.length;
            places = other.places;
        }

        private boolean isPlace(int place) {
            return place >= 0 && place < places;
        }

        private boolean isChoice(int place, int choice) {
            return isPlace(place) && choice >= 0 && choice < choiceCounts[place];
        }

        private int allPlaces() {
            return (1 << places) - 1;
        }

        /** Where the bytes begin that stand ahead of a PLACE (or behind the last one). */
        private int plainStart(int place) {
            if (place == 0) {
                return 0;
            }
            int last = (place - 1) * CHOICES + choiceCounts[place - 1] - 1;
            return ends[last] + 1;
        }

        private int plainEnd(int place) {
            return place < places ? starts[place * CHOICES] - 1 : length;
        }

        private int byteAt(int[] rows, int base, int i) {
            int left = i;
            for (int p = 0; p <= places; p++) {
                int from = plainStart(p);
                int size = plainEnd(p) - from;
                if (left < size) {
                    return bytes[from + left];
                }
                left -= size;
                if (p < places) {
                    int slot = p * CHOICES + rows[base + p];
                    size = ends[slot] - starts[slot];
                    if (left < size) {
                        return bytes[starts[slot] + left];
                    }
                    left -= size;
                }
            }
            return NONE;
        }

        private int countRows() {
            int rows = 1;
            for (int p = 0; p < places; p++) {
                rows *= choiceCounts[p];
            }
            return rows;
        }

        /** The k-th of all ROWS, PLACE 0 counting most. */
        private void rowAt(int k, int[] row) {
            int rest = k;
            for (int p = places - 1; p >= 0; p--) {
                int n = Math.max(1, choiceCounts[p]);
                row[p] = rest % n;
                rest /= n;
            }
        }
    }

    /** All that an IMAGE keeps. */
    private static final class State {
        private final Letter letter = new Letter();
        private final int[] costs = new int[PLACES * CHOICES];
        private final int[] mends = new int[PLACES];
        private final int[] rows = new int[COPIES * PLACES];
        private final int[] printValues = new int[PLACES];
        private final int[] pasts = new int[PASTS * PLACES];
        private final int[] pastMost = new int[PASTS];
        private final int[] pastHow = new int[PASTS];
        private final int[] tally = new int[CHOICES];
        private int copies;
        private int pastCount;
        private int most = 2;
        private int how = MIX;

        private void begin(Tape tape) {
            letter.read(tape.bytes, tape.length);
            Arrays.fill(costs, 0);
            Arrays.fill(mends, -1);
            Arrays.fill(printValues, LOST);
            copies = 0;
            pastCount = 0;
        }

        private void takeFrom(State other) {
            letter.takeFrom(other.letter);
            System.arraycopy(other.costs, 0, costs, 0, PLACES * CHOICES);
            System.arraycopy(other.mends, 0, mends, 0, PLACES);
            System.arraycopy(other.rows, 0, rows, 0, COPIES * PLACES);
            System.arraycopy(other.printValues, 0, printValues, 0, PLACES);
            System.arraycopy(other.pasts, 0, pasts, 0, PASTS * PLACES);
            System.arraycopy(other.pastMost, 0, pastMost, 0, PASTS);
            System.arraycopy(other.pastHow, 0, pastHow, 0, PASTS);
            copies = other.copies;
            pastCount = other.pastCount;
            most = other.most;
            how = other.how;
        }

        private boolean isCopy(int c) {
            return c >= 0 && c < copies;
        }

        private boolean isSet(int set) {
            return set > 0 && set < 1 << copies;
        }

        private int addCopy(int[] items, int from) {
            if (!letter.there) {
                return NOT;
            }
            for (int p = 0; p < letter.places; p++) {
                if (!letter.isChoice(p, items[from + p])) {
                    return NOT;
                }
            }
            if (copies >= COPIES) {
                return FULL;
            }
            System.arraycopy(items, from, rows, copies * PLACES, letter.places);
            copies++;
            return copies - 1;
        }

        private int addPast() {
            if (pastCount >= PASTS) {
                return FULL;
            }
            System.arraycopy(printValues, 0, pasts, pastCount * PLACES, PLACES);
            pastMost[pastCount] = most;
            pastHow[pastCount] = how;
            pastCount++;
            return pastCount - 1;
        }

        /** Values at all PLACES as bits, one a GROUP; LOST asks for nothing, so it has none. */
        private int bitsOf(int[] values, int base) {
            int bits = 0;
            for (int p = 0; p < letter.places; p++) {
                if (values[base + p] != LOST) {
                    bits |= 1 << (GROUP * p + values[base + p]);
                }
            }
            return bits;
        }

        private int countLost() {
            int lost = 0;
            for (int p = 0; p < letter.places; p++) {
                lost += printValues[p] == LOST ? 1 : 0;
            }
            return lost;
        }

        private int matches(int c) {
            int same = 0;
            for (int p = 0; p < letter.places; p++) {
                same += printValues[p] == rows[c * PLACES + p] ? 1 : 0;
            }
            return same;
        }

        private int sumCosts(int c) {
            int sum = 0;
            for (int p = 0; p < letter.places; p++) {
                sum += costs[p * CHOICES + rows[c * PLACES + p]];
            }
            return sum;
        }

        /** The order by which a PLACE costs least: two bits a CHOICE, CHOICE 0 highest, so that the first is the least. */
        private int bestOrder(int place) {
            Arrays.fill(tally, 0);
            for (int c = 0; c < copies; c++) {
                tally[rows[c * PLACES + place]]++;
            }
            int best = 0;
            int least = COPIES * TOP_COST + 1;
            for (int order = 0; order < 256; order++) {
                if (isOrder(order, letter.choiceCounts[place])) {
                    int sum = costBy(order, place);
                    if (sum < least) {
                        least = sum;
                        best = order;
                    }
                }
            }
            return best;
        }

        private int costBy(int order, int place) {
            int sum = 0;
            for (int k = 0; k < CHOICES; k++) {
                sum += tally[k] * costs[place * CHOICES + standsFor(order, k)];
            }
            return sum;
        }

        private void reorder(int place, int order) {
            for (int c = 0; c < copies; c++) {
                int slot = c * PLACES + place;
                rows[slot] = standsFor(order, rows[slot]);
            }
        }

        private static int standsFor(int order, int k) {
            return (order >> (2 * (CHOICES - 1 - k))) & 3;
        }

        /** Whether each of the first n CHOICES is there once, and those behind stay. */
        private static boolean isOrder(int order, int n) {
            int seen = 0;
            for (int k = 0; k < CHOICES; k++) {
                int v = standsFor(order, k);
                if (k >= n && v != k) {
                    return false;
                }
                seen |= 1 << v;
            }
            return seen == 15;
        }
    }

    /** Finds the first ROW as which a text reads. */
    private static final class Matcher {
        private static final int WIDTH = TAPE_BYTES + 1;

        // The first value by which the text from a byte on reads as THE LETTER from a PLACE on, or -1.
        private final int[] picks = new int[(PLACES + 1) * WIDTH];

        private boolean match(Letter letter, byte[] text, int n, int[] row) {
            for (int p = letter.places; p >= 0; p--) {
                for (int at = 0; at <= n; at++) {
                    picks[p * WIDTH + at] = pick(letter, p, text, n, at);
                }
            }
            if (picks[0] < 0) {
                return false;
            }
            int at = 0;
            for (int p = 0; p < letter.places; p++) {
                int v = picks[p * WIDTH + at];
                row[p] = v;
                at += letter.plainEnd(p) - letter.plainStart(p) + sizeOf(letter, p, v);
            }
            return true;
        }

        private int pick(Letter letter, int p, byte[] text, int n, int at) {
            int from = letter.plainStart(p);
            int end = letter.plainEnd(p);
            if (!stands(letter, from, end, text, n, at)) {
                return -1;
            }
            int behind = at + end - from;
            if (p == letter.places) {
                return behind == n ? 0 : -1;
            }
            for (int v = 0; v < letter.choiceCounts[p]; v++) {
                int slot = p * CHOICES + v;
                if (stands(letter, letter.starts[slot], letter.ends[slot], text, n, behind)
                    && picks[(p + 1) * WIDTH + behind + sizeOf(letter, p, v)] >= 0) {
                    return v;
                }
            }
            return picks[(p + 1) * WIDTH + behind] >= 0 ? LEFT_OUT : -1;
        }

        private static int sizeOf(Letter letter, int p, int v) {
            if (v == LEFT_OUT) {
                return 0;
            }
            int slot = p * CHOICES + v;
            return letter.ends[slot] - letter.starts[slot];
        }

        /** Whether bytes of THE LETTER stand in the text at a place. */
        private static boolean stands(Letter letter, int from, int end, byte[] text, int n, int at) {
            if (end - from > n - at) {
                return false;
            }
            for (int k = from; k < end; k++) {
                if (letter.bytes[k] != text[at + k - from]) {
                    return false;
                }
            }
            return true;
        }
    }

    /** The sets that may join, in their order, and what each of them CAN. */
    private static final class Joins {
        private final int[] rowBits = new int[COPIES];
        private final int[] sets = new int[SETS];
        private final int[] unions = new int[SETS];
        private final int[] cans = new int[SETS];
        private int size;
        private int copies;
        private int most;
        private int how;
        private int ones;
        private int anyBits;
        private int mendBits;
        private int sure;
        private int maybe;
        private int found;

        private void look(State s, int joining, int joinedHow) {
            most = joining;
            how = joinedHow;
            copies = s.copies;
            ones = 0;
            anyBits = 0;
            mendBits = 0;
            for (int p = 0; p < s.letter.places; p++) {
                ones |= 1 << (GROUP * p);
                anyBits |= ((1 << s.letter.choiceCounts[p]) - 1) << (GROUP * p);
                if (s.mends[p] >= 0) {
                    mendBits |= 1 << (GROUP * p + s.mends[p]);
                }
            }
            for (int c = 0; c < copies; c++) {
                rowBits[c] = s.bitsOf(s.rows, c * PLACES);
            }
        }

        private void list() {
            size = 0;
            for (int members = 1; members <= most; members++) {
                for (int set = 1; set < 1 << copies; set++) {
                    if (Integer.bitCount(set) == members && size < SETS) {
                        sets[size] = set;
                        unions[size] = unionOf(set);
                        cans[size] = widened(unions[size]);
                        size++;
                    }
                }
            }
        }

        private int unionOf(int set) {
            int union = 0;
            for (int c = 0; c < copies; c++) {
                if (((set >> c) & 1) == 1) {
                    union |= rowBits[c];
                }
            }
            return union;
        }

        private int canOf(int set) {
            return widened(unionOf(set));
        }

        /**
         * What those CAN who have these CHOICES. No GROUP of a union is empty, so taking 1 from each at once
         * borrows nothing, and x & x - 1 keeps something just where CHOICES are unlike; 15 more carries this
         * into the GROUP's highest bit, which is the one of LEFT OUT.
         */
        private int widened(int union) {
            int unlike = ((union & (union - ones)) + LOWS) & (16 * ones);
            int can = union | mendBits;
            if (how == ANY) {
                return can | ((unlike - (unlike >> 4)) & anyBits);
            }
            return how == LEAVE ? can | unlike : can;
        }

        /** The i-th set that makes what is wanted. */
        private int madeBy(int wanted, int i) {
            int left = i;
            for (int k = 0; k < size; k++) {
                if ((wanted & ~cans[k]) == 0) {
                    if (left == 0) {
                        return sets[k];
                    }
                    left--;
                }
            }
            return NONE;
        }

        private void suspect(int wanted) {
            found = 0;
            sure = -1;
            maybe = 0;
            for (int k = 0; k < size; k++) {
                if ((wanted & ~cans[k]) == 0) {
                    found++;
                    sure &= sets[k];
                    maybe |= sets[k];
                }
            }
            sure = found == 0 ? 0 : sure;
        }
    }

    /** Holds the LAWS against all sets and PRINTS. */
    private static final class Laws {
        private final Joins joins = new Joins();
        private final int[] row = new int[PLACES];

        // Sets of the list as bits of two longs: those that CAN a value at a PLACE, those with a COPY in them.
        private final long[] canLow = new long[PLACES * GROUP];
        private final long[] canHigh = new long[PLACES * GROUP];
        private final long[] withLow = new long[COPIES];
        private final long[] withHigh = new long[COPIES];
        private int first;
        private int second;

        /** Whether a LAW is broken as if there were these PLACES alone; THE BREACH is kept then. */
        private boolean broken(int law, int placeSet) {
            if (law == FRAMED) {
                return someFramed(groupsOf(placeSet));
            }
            if (law == APART) {
                return someTouch(groupsOf(placeSet));
            }
            long low = lowestBits(joins.size);
            long high = lowestBits(joins.size - 64);
            return someUnnamed(0, placeSet, low, high);
        }

        private static int groupsOf(int placeSet) {
            int groups = 0;
            for (int p = 0; p < PLACES; p++) {
                if (((placeSet >> p) & 1) == 1) {
                    groups |= WHOLE_GROUP << (GROUP * p);
                }
            }
            return groups;
        }

        private static long lowestBits(int n) {
            if (n <= 0) {
                return 0;
            }
            return n >= 64 ? -1L : (1L << n) - 1;
        }

        private boolean someFramed(int groups) {
            for (int k = 0; k < joins.size; k++) {
                int victim = victimOf(joins.sets[k], joins.cans[k], groups);
                if (victim >= 0) {
                    first = joins.sets[k];
                    second = victim;
                    return true;
                }
            }
            return false;
        }

        /** The least COPY that is not in a set, but whose ROW this set makes, or -1. */
        private int victimOf(int set, int can, int groups) {
            for (int c = 0; c < joins.copies; c++) {
                if (((set >> c) & 1) == 0 && (joins.rowBits[c] & groups & ~can) == 0) {
                    return c;
                }
            }
            return -1;
        }

        private boolean someTouch(int groups) {
            for (int k = 0; k < joins.size; k++) {
                int other = touching(joins.sets[k], joins.cans[k], groups, k + 1);
                if (other >= 0) {
                    first = joins.sets[k];
                    second = joins.sets[other];
                    return true;
                }
            }
            return false;
        }

        /** Of the sets from one on, the first without a COPY in common that makes something in common, or -1. */
        private int touching(int set, int can, int groups, int from) {
            for (int k = from; k < joins.size; k++) {
                if ((set & joins.sets[k]) == 0 && meetEverywhere(can & joins.cans[k], groups)) {
                    return k;
                }
            }
            return -1;
        }

        /** Whether no GROUP that counts is empty: its highest bit is there, or adding 15 to the others carries into it. */
        private static boolean meetEverywhere(int common, int groups) {
            int wanted = HIGHS & groups;
            return ((((common & LOWS) + LOWS) | common) & wanted) == wanted;
        }

        /** Makes ready for NAMED: which sets CAN which value, and who is in which. */
        private void mark() {
            Arrays.fill(canLow, 0);
            Arrays.fill(canHigh, 0);
            Arrays.fill(withLow, 0);
            Arrays.fill(withHigh, 0);
            for (int k = 0; k < joins.size; k++) {
                long low = k < 64 ? 1L << k : 0;
                long high = k < 64 ? 0 : 1L << (k - 64);
                spread(joins.cans[k], canLow, low);
                spread(joins.cans[k], canHigh, high);
                spread(joins.sets[k], withLow, low);
                spread(joins.sets[k], withHigh, high);
            }
        }

        private static void spread(int bits, long[] into, long mark) {
            for (int b = 0; b < into.length; b++) {
                if (((bits >> b) & 1) == 1) {
                    into[b] |= mark;
                }
            }
        }

        /**
         * Goes through the PRINTS in their order, with the sets that still make what stands ahead of PLACE p.
         * If one COPY is in all of these, it is in all that are left further on, too.
         */
        private boolean someUnnamed(int p, int placeSet, long low, long high) {
            if ((low | high) == 0 || haveOneInCommon(low, high)) {
                return false;
            }
            if (p >= PLACES) {
                return true;
            }
            if (((placeSet >> p) & 1) == 0) {
                return someUnnamed(p + 1, placeSet, low, high);
            }
            for (int v = 0; v < GROUP; v++) {
                int slot = p * GROUP + v;
                row[p] = v;
                if (someUnnamed(p + 1, placeSet, low & canLow[slot], high & canHigh[slot])) {
                    return true;
                }
            }
            return false;
        }

        private boolean haveOneInCommon(long low, long high) {
            for (int c = 0; c < joins.copies; c++) {
                if ((low & ~withLow[c]) == 0 && (high & ~withHigh[c]) == 0) {
                    return true;
                }
            }
            return false;
        }

        /** Whether a LAW that holds still does with a COPY of this ROW more, which is no COPY's yet. */
        private boolean admits(int law, int bits) {
            for (int c = 0; c < joins.copies; c++) {
                if (joins.rowBits[c] == bits) {
                    return false;
                }
            }
            if (law == FRAMED && isFramed(bits)) {
                return false;
            }
            if (harms(law, 0, joins.widened(bits))) {
                return false;
            }
            for (int k = 0; k < joins.size; k++) {
                boolean roomForOne = Integer.bitCount(joins.sets[k]) < joins.most;
                if (roomForOne && harms(law, joins.sets[k], joins.widened(joins.unions[k] | bits))) {
                    return false;
                }
            }
            return true;
        }

        private boolean isFramed(int bits) {
            for (int k = 0; k < joins.size; k++) {
                if ((bits & ~joins.cans[k]) == 0) {
                    return true;
                }
            }
            return false;
        }

        /** Whether a set, which CAN so with the new COPY in it, breaks the LAW with those that were there. */
        private boolean harms(int law, int set, int can) {
            int groups = WHOLE_GROUP * joins.ones;
            return law == FRAMED ? victimOf(set, can, groups) >= 0 : touching(set, can, groups, 0) >= 0;
        }
    }

    /** How many of all ROWS have which SCORE. */
    private static final class Chance {
        private final int[] ways = new int[PLACES + 1];

        private void spread(State s) {
            Arrays.fill(ways, 0);
            ways[0] = 1;
            for (int p = 0; p < s.letter.places; p++) {
                int hits = s.printValues[p] < LEFT_OUT ? 1 : 0;
                int misses = s.letter.choiceCounts[p] - hits;
                for (int k = PLACES; k > 0; k--) {
                    ways[k] = ways[k] * misses + ways[k - 1] * hits;
                }
                ways[0] *= misses;
            }
        }

        private int atLeast(int bar) {
            int sum = 0;
            for (int k = bar; k <= PLACES; k++) {
                sum += ways[k];
            }
            return sum;
        }

        private int reduced(int bar, int part) {
            int above = atLeast(bar);
            int below = atLeast(0);
            int common = commonDivisor(below, above);
            if (common < 1) {
                return NONE;
            }
            return (part == 0 ? above : below) / common;
        }

        private static int commonDivisor(int a, int b) {
            int x = a;
            int y = b;
            // Each two steps halve what is left of at most 4096.
            for (int step = 0; step < 64 && y > 0; step++) {
                int rest = x % y;
                x = y;
                y = rest;
            }
            return x;
        }

        private int leastBar(int q) {
            int below = atLeast(0);
            for (int bar = 0; bar <= TOP_BAR; bar++) {
                if (atLeast(bar) * q <= below) {
                    return bar;
                }
            }
            return NONE;
        }
    }

    /** What a set does best to hide. */
    private static final class Hiding {
        private static final int SCORE_BITS = 4;

        // What a value at a PLACE adds to the SCORES of the set's COPIES, four bits a COPY.
        private final int[] gains = new int[PLACES * GROUP];
        private final int[] row = new int[PLACES];
        private final int[] best = new int[PLACES];
        private int least;

        private void seek(Joins joins, int set, int places) {
            Arrays.fill(gains, 0);
            for (int c = 0; c < joins.copies; c++) {
                if (((set >> c) & 1) == 1) {
                    addGains(joins.rowBits[c], 1 << (SCORE_BITS * c));
                }
            }
            least = PLACES + 1;
            walk(0, places, joins.canOf(set), 0);
        }

        private void addGains(int rowBits, int gain) {
            for (int slot = 0; slot < gains.length; slot++) {
                if (((rowBits >> slot) & 1) == 1) {
                    gains[slot] += gain;
                }
            }
        }

        /** SCORES only grow, so what is no better than the best now never will be. */
        private void walk(int p, int places, int can, int scores) {
            int top = highest(scores);
            if (top >= least) {
                return;
            }
            if (p >= places || p >= PLACES) {
                least = top;
                System.arraycopy(row, 0, best, 0, PLACES);
                return;
            }
            for (int v = 0; v < GROUP; v++) {
                int slot = p * GROUP + v;
                if (((can >> slot) & 1) == 1) {
                    row[p] = v;
                    walk(p + 1, places, can, scores + gains[slot]);
                }
            }
        }

        private static int highest(int scores) {
            int top = 0;
            for (int c = 0; c < COPIES; c++) {
                top = Math.max(top, (scores >>> (SCORE_BITS * c)) & 15);
            }
            return top;
        }
    }

    /** Sheets, each nothing or a row of a lane. */
    private static final class Sheets {
        private static final int NOTHING = -1;

        private final int[] lanes = {NOTHING, NOTHING, NOTHING, NOTHING};
        private final int[] lengths = new int[SHEETS];
        private final int[] items = new int[SHEETS * ITEMS];

        private static boolean isSheet(int s) {
            return s >= 0 && s < SHEETS;
        }

        private static boolean isLane(int lane) {
            return lane >= 0 && lane < LANES;
        }

        private int lay(int s, int lane, int n) {
            if (!isSheet(s) || !isLane(lane) || n > ITEMS) {
                return BAD;
            }
            if (n < 0) {
                return SIZE;
            }
            lanes[s] = lane;
            lengths[s] = n;
            for (int i = 0; i < ITEMS; i++) {
                items[s * ITEMS + i] = 0;
            }
            return n;
        }

        private int remove(int s) {
            if (!isSheet(s)) {
                return BAD;
            }
            if (lanes[s] == NOTHING) {
                return NULL;
            }
            lanes[s] = NOTHING;
            return lengths[s];
        }

        /** Why n items from i on can't be taken as a row of a lane, or 0. */
        private int refusal(int s, int lane, int i, int n) {
            if (!isSheet(s) || !isLane(lane)) {
                return BAD;
            }
            if (lanes[s] == NOTHING) {
                return NULL;
            }
            if (lanes[s] != lane) {
                return CAST;
            }
            return has(s, i, n) ? 0 : INDEX;
        }

        private boolean has(int s, int i, int n) {
            return i >= 0 && n >= 0 && n <= lengths[s] && i <= lengths[s] - n;
        }

        private static int narrowed(int lane, int v) {
            if (lane == 0) {
                return (byte) v;
            }
            return lane == 1 ? (short) v : v;
        }

        private int move(int from, int i, int to, int j, int n) {
            if (!isSheet(from) || !isSheet(to)) {
                return BAD;
            }
            if (lanes[from] == NOTHING || lanes[to] == NOTHING) {
                return NULL;
            }
            if (lanes[from] != lanes[to]) {
                return CAST;
            }
            if (!has(from, i, n) || !has(to, j, n)) {
                return INDEX;
            }
            System.arraycopy(items, from * ITEMS + i, items, to * ITEMS + j, n);
            return n;
        }
    }
}
