import java.util.ArrayList;
import java.util.Arrays;
import java.util.List;

/** The document word for word, without any haste: what CommaCopies is held against. */
final class Naive {
    static final int BAD = -1, NOT = -2, FULL = -3, NONE = -4, NULL = -11, CAST = -12, INDEX = -13, SIZE = -14;

    /** A kept PRINT. */
    record Past(int[] print, int n, int how) {
    }

    /** All that an image keeps. */
    static final class All {
        String letter = null;
        // Pieces of the letter: plain texts, one more than places.
        List<String> plain = new ArrayList<>();
        List<List<String>> places = new ArrayList<>();
        int[][] costs = new int[6][4];
        int[] mended = {-1, -1, -1, -1, -1, -1};
        List<int[]> copies = new ArrayList<>();
        int[] print = {5, 5, 5, 5, 5, 5};
        List<Past> pasts = new ArrayList<>();
        int n = 2;
        int how = 0;

        All twin() {
            All t = new All();
            t.letter = letter;
            t.plain = new ArrayList<>(plain);
            t.places = new ArrayList<>(places);
            for (int p = 0; p < 6; p++) {
                t.costs[p] = costs[p].clone();
            }
            t.mended = mended.clone();
            for (int[] c : copies) {
                t.copies.add(c.clone());
            }
            t.print = print.clone();
            t.pasts = new ArrayList<>(pasts);
            t.n = n;
            t.how = how;
            return t;
        }
    }

    /** A sheet's row. */
    static final class Sheet {
        int lane;
        int[] items;
    }

    All s = new All();
    All image = null;
    StringBuilder tape = new StringBuilder();
    Sheet[] sheets = new Sheet[4];

    int type(long w, int n) {
        if (n < 1 || n > 8) {
            return BAD;
        }
        StringBuilder more = new StringBuilder();
        for (int k = 0; k < n; k++) {
            int b = (int) (w & 255);
            if (b < 32 || b > 126) {
                return BAD;
            }
            more.append((char) b);
            w >>= 8;
        }
        if (tape.length() + n > 120) {
            return FULL;
        }
        tape.append(more.reverse());
        return tape.length();
    }

    private static int fault(String t) {
        int at = 0;
        int places = 0;
        while (at < t.length()) {
            char c = t.charAt(at);
            if (c == '/' || c == ']' || c == '[' && places == 6) {
                return at;
            }
            at++;
            if (c != '[') {
                continue;
            }
            places++;
            int choices = 1;
            int size = 0;
            boolean open = true;
            while (open) {
                if (at == t.length()) {
                    return at;
                }
                char d = t.charAt(at);
                if (d == '[' || d == ']' && choices == 1 || d == '/' && choices == 4) {
                    return at;
                }
                if (d == ']') {
                    open = false;
                } else if (d == '/') {
                    choices++;
                    size = 0;
                } else {
                    size++;
                    if (size == 9) {
                        return at;
                    }
                }
                at++;
            }
        }
        return t.isEmpty() ? 0 : -1;
    }

    int letter() {
        String t = tape.toString();
        tape.setLength(0);
        int f = fault(t);
        if (f >= 0) {
            return -20 - f;
        }
        All old = s;
        s = new All();
        s.n = old.n;
        s.how = old.how;
        s.letter = t;
        String rest = t;
        while (rest.indexOf('[') >= 0) {
            int open = rest.indexOf('[');
            int close = rest.indexOf(']');
            s.plain.add(rest.substring(0, open));
            s.places.add(Arrays.asList(rest.substring(open + 1, close).split("/", -1)));
            rest = rest.substring(close + 1);
        }
        s.plain.add(rest);
        return s.places.size();
    }

    private int places() {
        return s.places.size();
    }

    private boolean isPlace(int p) {
        return p >= 0 && p < places();
    }

    private boolean isChoice(int p, int c) {
        return isPlace(p) && c >= 0 && c < s.places.get(p).size();
    }

    private boolean isCopy(int c) {
        return c >= 0 && c < s.copies.size();
    }

    private boolean isSet(int set) {
        return set >= 1 && set <= (1 << s.copies.size()) - 1;
    }

    int choices(int place) {
        return isPlace(place) ? s.places.get(place).size() : BAD;
    }

    int cost(int place, int choice, int v) {
        if (!isChoice(place, choice) || v < 0 || v > 9) {
            return BAD;
        }
        int was = s.costs[place][choice];
        s.costs[place][choice] = v;
        return was;
    }

    int mended(int place, int choice) {
        if (!isPlace(place) || !(choice == -1 || isChoice(place, choice))) {
            return -101;
        }
        int was = s.mended[place];
        s.mended[place] = choice;
        return was;
    }

    int copyOf(int sheet, int lane, int i) {
        if (sheet < 0 || sheet > 3 || lane < 0 || lane > 2) {
            return BAD;
        }
        if (sheets[sheet] == null) {
            return NULL;
        }
        if (sheets[sheet].lane != lane) {
            return CAST;
        }
        int[] items = sheets[sheet].items;
        if (i < 0 || (long) i + places() > items.length) {
            return INDEX;
        }
        if (s.letter == null) {
            return NOT;
        }
        int[] row = new int[6];
        for (int p = 0; p < places(); p++) {
            if (!isChoice(p, items[i + p])) {
                return NOT;
            }
            row[p] = items[i + p];
        }
        if (s.copies.size() == 8) {
            return FULL;
        }
        s.copies.add(row);
        return s.copies.size() - 1;
    }

    int choice(int copy, int place) {
        return isCopy(copy) && isPlace(place) ? s.copies.get(copy)[place] : BAD;
    }

    int burn(int copy) {
        if (!isCopy(copy)) {
            return BAD;
        }
        s.copies.remove(copy);
        return s.copies.size();
    }

    private String readsAs(int[] row) {
        StringBuilder t = new StringBuilder();
        for (int p = 0; p < places(); p++) {
            t.append(s.plain.get(p));
            t.append(row[p] == 4 ? "" : s.places.get(p).get(row[p]));
        }
        return t.append(s.plain.get(places())).toString();
    }

    int reads(int copy, int i) {
        if (!isCopy(copy) || i < 0) {
            return BAD;
        }
        String t = readsAs(s.copies.get(copy));
        return i < t.length() ? t.charAt(i) : NONE;
    }

    int costOf(int copy) {
        if (!isCopy(copy)) {
            return BAD;
        }
        int sum = 0;
        for (int p = 0; p < places(); p++) {
            sum += s.costs[p][s.copies.get(copy)[p]];
        }
        return sum;
    }

    int set(int what, int v) {
        int was;
        if (what == 0 && v >= 1 && v <= 3) {
            was = s.n;
            s.n = v;
            return was;
        }
        if (what == 1 && v >= 0 && v <= 2) {
            was = s.how;
            s.how = v;
            return was;
        }
        return BAD;
    }

    int count(int what) {
        int lost = 0;
        for (int p = 0; p < places(); p++) {
            lost += s.print[p] == 5 ? 1 : 0;
        }
        return switch (what) {
            case 0 -> places();
            case 1 -> s.copies.size();
            case 2 -> s.pasts.size();
            case 3 -> s.letter == null ? 0 : s.letter.length();
            case 4 -> makers(s.print, s.n, s.how).size();
            case 5 -> lost;
            default -> BAD;
        };
    }

    private static boolean in(int c, int set) {
        return (set & 1 << c) != 0;
    }

    /** Whether a set CAN so at a place, of these copies. */
    private boolean can(List<int[]> copies, int set, int p, int v, int how) {
        if (v != 4 && s.mended[p] == v) {
            return true;
        }
        boolean has = false;
        boolean unlike = false;
        int one = -1;
        for (int c = 0; c < copies.size(); c++) {
            if (in(c, set)) {
                int mine = copies.get(c)[p];
                has |= mine == v;
                unlike |= one >= 0 && one != mine;
                one = mine;
            }
        }
        if (how == 1 && unlike && v < s.places.get(p).size()) {
            return true;
        }
        if (how == 2 && unlike && v == 4) {
            return true;
        }
        return has;
    }

    private boolean makes(List<int[]> copies, int set, int[] print, int how, int placeSet) {
        for (int p = 0; p < places(); p++) {
            if (in(p, placeSet) && print[p] != 5 && !can(copies, set, p, print[p], how)) {
                return false;
            }
        }
        return true;
    }

    private static List<Integer> sets(int copies, int n) {
        List<Integer> all = new ArrayList<>();
        for (int set = 1; set < 1 << copies; set++) {
            if (Integer.bitCount(set) <= n) {
                all.add(set);
            }
        }
        all.sort((a, b) -> Integer.bitCount(a) != Integer.bitCount(b)
            ? Integer.bitCount(a) - Integer.bitCount(b) : a - b);
        return all;
    }

    private List<Integer> makers(int[] print, int n, int how) {
        List<Integer> found = new ArrayList<>();
        for (int set : sets(s.copies.size(), n)) {
            if (makes(s.copies, set, print, how, 63)) {
                found.add(set);
            }
        }
        return found;
    }

    int print(int place, int v) {
        if (!isPlace(place) || !(isChoice(place, v) || v == 4 || v == 5)) {
            return BAD;
        }
        int was = s.print[place];
        s.print[place] = v;
        return was;
    }

    int printed() {
        String t = tape.toString();
        tape.setLength(0);
        if (s.letter == null) {
            return NOT;
        }
        int[] row = {0, 0, 0, 0, 0, 0};
        do {
            if (readsAs(row).equals(t)) {
                System.arraycopy(row, 0, s.print, 0, places());
                return 1;
            }
        } while (next(row, true));
        return NONE;
    }

    /** The next row, in order; with the value 4 behind the choices, if so told. */
    private boolean next(int[] row, boolean leftOut) {
        for (int p = places() - 1; p >= 0; p--) {
            int k = s.places.get(p).size();
            if (row[p] < k - 1) {
                row[p]++;
                return true;
            }
            if (leftOut && row[p] != 4) {
                row[p] = 4;
                return true;
            }
            row[p] = 0;
        }
        return false;
    }

    int could(int set) {
        if (!isSet(set)) {
            return BAD;
        }
        return makes(s.copies, set, s.print, s.how, 63) ? 1 : 0;
    }

    int maker(int i) {
        if (i < 0) {
            return BAD;
        }
        List<Integer> m = makers(s.print, s.n, s.how);
        return i < m.size() ? m.get(i) : NONE;
    }

    private static int sure(List<Integer> makers) {
        int sure = makers.isEmpty() ? 0 : 255;
        for (int m : makers) {
            sure &= m;
        }
        return sure;
    }

    private static int maybe(List<Integer> makers) {
        int maybe = 0;
        for (int m : makers) {
            maybe |= m;
        }
        return maybe;
    }

    int blamed(int what) {
        List<Integer> m = makers(s.print, s.n, s.how);
        return what == 0 ? sure(m) : what == 1 ? maybe(m) : BAD;
    }

    int unjust(int set) {
        if (!isSet(set)) {
            return BAD;
        }
        List<Integer> m = makers(s.print, s.n, s.how);
        if (m.isEmpty()) {
            return NOT;
        }
        for (int c = 0; c < 8; c++) {
            if (in(c, set) && !in(c, sure(m))) {
                return c;
            }
        }
        return NONE;
    }

    /** The breach of a law with these copies, these places alone, or null. */
    private int[] breachOf(int law, List<int[]> copies, int placeSet) {
        List<Integer> sets = sets(copies.size(), s.n);
        if (law == 0) {
            for (int set : sets) {
                for (int c = 0; c < copies.size(); c++) {
                    if (!in(c, set) && makes(copies, set, copies.get(c), s.how, placeSet)) {
                        return new int[] {set, c};
                    }
                }
            }
            return null;
        }
        if (law == 1) {
            for (int a : sets) {
                for (int b : sets) {
                    if ((a & b) == 0 && common(copies, a, b, placeSet)) {
                        return new int[] {a, b};
                    }
                }
            }
            return null;
        }
        int[] print = new int[6];
        do {
            int all = 255;
            boolean made = false;
            for (int set : sets) {
                if (makes(copies, set, print, s.how, placeSet)) {
                    all &= set;
                    made = true;
                }
            }
            if (made && all == 0) {
                return print;
            }
        } while (nextPrint(print, placeSet));
        return null;
    }

    private boolean nextPrint(int[] print, int placeSet) {
        for (int p = places() - 1; p >= 0; p--) {
            if (in(p, placeSet)) {
                if (print[p] < 4) {
                    print[p]++;
                    return true;
                }
                print[p] = 0;
            }
        }
        return false;
    }

    private boolean common(List<int[]> copies, int a, int b, int placeSet) {
        for (int p = 0; p < places(); p++) {
            boolean meet = !in(p, placeSet);
            for (int v = 0; v <= 4; v++) {
                meet |= can(copies, a, p, v, s.how) && can(copies, b, p, v, s.how);
            }
            if (!meet) {
                return false;
            }
        }
        return true;
    }

    int holds(int law) {
        if (law < 0 || law > 2) {
            return BAD;
        }
        return breachOf(law, s.copies, 63) == null ? 1 : 0;
    }

    int breach(int law, int what) {
        if (law < 0 || law > 2 || what < 0 || what >= (law == 2 ? places() : 2)) {
            return BAD;
        }
        int[] b = breachOf(law, s.copies, 63);
        return b == null ? NONE : b[what];
    }

    int fewest(int law) {
        if (law < 0 || law > 2) {
            return BAD;
        }
        int best = NONE;
        for (int set = 0; set < 1 << places(); set++) {
            boolean fewer = best == NONE || Integer.bitCount(set) < Integer.bitCount(best);
            if (fewer && breachOf(law, s.copies, set) == null) {
                best = set;
            }
        }
        return best;
    }

    int more(int law, int place) {
        if (law < 0 || law > 1 || !isPlace(place)) {
            return BAD;
        }
        if (s.copies.size() == 8) {
            return FULL;
        }
        int[] row = new int[6];
        do {
            boolean fresh = true;
            for (int[] c : s.copies) {
                fresh &= !Arrays.equals(c, row);
            }
            List<int[]> with = new ArrayList<>(s.copies);
            with.add(row);
            if (fresh && breachOf(law, with, 63) == null) {
                return row[place];
            }
        } while (next(row, false));
        return NONE;
    }

    private int scoreOf(int[] row, int[] print) {
        int same = 0;
        for (int p = 0; p < places(); p++) {
            same += row[p] == print[p] ? 1 : 0;
        }
        return same;
    }

    int score(int copy) {
        return isCopy(copy) ? scoreOf(s.copies.get(copy), s.print) : BAD;
    }

    private int[] fraction(int bar) {
        int above = 0;
        int below = 0;
        int[] row = new int[6];
        do {
            below++;
            above += scoreOf(row, s.print) >= bar ? 1 : 0;
        } while (next(row, false));
        for (int d = below; d > 1; d--) {
            if (above % d == 0 && below % d == 0) {
                above /= d;
                below /= d;
            }
        }
        return new int[] {above, below};
    }

    int wrong(int bar, int part) {
        if (bar < 0 || bar > 6 || part < 0 || part > 1) {
            return BAD;
        }
        return s.letter == null ? NOT : fraction(bar)[part];
    }

    int bar(int q) {
        if (q < 1 || q > 9999) {
            return BAD;
        }
        if (s.letter == null) {
            return NOT;
        }
        for (int b = 0; b <= 6; b++) {
            int[] f = fraction(b);
            if ((long) f[0] * q <= f[1]) {
                return b;
            }
        }
        return NONE;
    }

    private int[] order(int place) {
        int k = s.places.get(place).size();
        List<int[]> orders = new ArrayList<>();
        orders(new int[0], k, orders);
        int[] best = null;
        int least = 0;
        for (int[] o : orders) {
            int sum = 0;
            for (int[] c : s.copies) {
                sum += s.costs[place][o[c[place]]];
            }
            if (best == null || sum < least) {
                best = o;
                least = sum;
            }
        }
        return best;
    }

    private static void orders(int[] begun, int k, List<int[]> into) {
        if (begun.length == k) {
            into.add(begun);
            return;
        }
        for (int v = 0; v < k; v++) {
            boolean used = false;
            for (int b : begun) {
                used |= b == v;
            }
            if (!used) {
                int[] longer = Arrays.copyOf(begun, begun.length + 1);
                longer[begun.length] = v;
                orders(longer, k, into);
            }
        }
    }

    int put(int place, int choice) {
        return isChoice(place, choice) ? order(place)[choice] : BAD;
    }

    int putAll() {
        if (s.letter == null) {
            return NOT;
        }
        for (int p = 0; p < places(); p++) {
            int[] o = order(p);
            for (int[] c : s.copies) {
                c[p] = o[c[p]];
            }
        }
        int sum = 0;
        for (int c = 0; c < s.copies.size(); c++) {
            sum += costOf(c);
        }
        return sum;
    }

    int hidden(int set, int what) {
        if (!isSet(set) || what != -1 && !isPlace(what)) {
            return BAD;
        }
        int[] print = new int[6];
        int[] best = null;
        int least = 0;
        do {
            if (makes(s.copies, set, print, s.how, 63)) {
                int top = 0;
                for (int c = 0; c < s.copies.size(); c++) {
                    top = in(c, set) ? Math.max(top, scoreOf(s.copies.get(c), print)) : top;
                }
                if (best == null || top < least) {
                    best = print.clone();
                    least = top;
                }
            }
        } while (nextPrint(print, 63));
        return what == -1 ? least : best[what];
    }

    int keep() {
        if (s.letter == null) {
            return NOT;
        }
        if (s.pasts.size() == 6) {
            return FULL;
        }
        s.pasts.add(new Past(s.print.clone(), s.n, s.how));
        return s.pasts.size() - 1;
    }

    int past(int copy, int what) {
        if (!isCopy(copy) || what < 0 || what > 1) {
            return BAD;
        }
        int times = 0;
        for (Past p : s.pasts) {
            List<Integer> m = makers(p.print(), p.n(), p.how());
            times += in(copy, what == 0 ? sure(m) : maybe(m)) ? 1 : 0;
        }
        return times;
    }

    int image() {
        image = s.twin();
        return 1;
    }

    int restore() {
        if (image == null) {
            return NONE;
        }
        s = image.twin();
        return 1;
    }

    int sheet(int sheet, int lane, int n) {
        if (sheet < 0 || sheet > 3 || lane < 0 || lane > 2 || n > 12) {
            return BAD;
        }
        if (n < 0) {
            return SIZE;
        }
        sheets[sheet] = new Sheet();
        sheets[sheet].lane = lane;
        sheets[sheet].items = new int[n];
        return n;
    }

    int drop(int sheet) {
        if (sheet < 0 || sheet > 3) {
            return BAD;
        }
        if (sheets[sheet] == null) {
            return NULL;
        }
        int n = sheets[sheet].items.length;
        sheets[sheet] = null;
        return n;
    }

    int item(int sheet, int lane, int i, int v) {
        if (sheet < 0 || sheet > 3 || lane < 0 || lane > 2) {
            return BAD;
        }
        if (sheets[sheet] == null) {
            return NULL;
        }
        if (sheets[sheet].lane != lane) {
            return CAST;
        }
        if (i < 0 || i >= sheets[sheet].items.length) {
            return INDEX;
        }
        sheets[sheet].items[i] = lane == 0 ? (byte) v : lane == 1 ? (short) v : v;
        return 1;
    }

    int copy(int from, int i, int to, int j, int n) {
        if (from < 0 || from > 3 || to < 0 || to > 3) {
            return BAD;
        }
        if (sheets[from] == null || sheets[to] == null) {
            return NULL;
        }
        if (sheets[from].lane != sheets[to].lane) {
            return CAST;
        }
        int[] a = sheets[from].items;
        int[] b = sheets[to].items;
        if (n < 0 || i < 0 || j < 0 || (long) i + n > a.length || (long) j + n > b.length) {
            return INDEX;
        }
        int[] taken = Arrays.copyOfRange(a, i, i + n);
        for (int k = 0; k < n; k++) {
            b[j + k] = taken[k];
        }
        return n;
    }
}
