import java.util.ArrayList;
import java.util.List;
import java.util.Random;

/** Random runs of calls, each answer held against the one of Naive (all promises). */
public final class NaiveTest {
    private static final int RUNS = 600;
    private static final int CALLS = 300;

    private final Random random;
    private final CommaCopies x = new CommaCopies();
    private final Naive y = new Naive();
    private final List<String> told = new ArrayList<>();
    private boolean wrong = false;
    private int crowd = 8;

    private NaiveTest(int seed) {
        random = new Random(seed);
    }

    public static void main(String[] args) {
        int wrongRuns = 0;
        for (int seed = 0; seed < RUNS && wrongRuns < 3; seed++) {
            NaiveTest run = new NaiveTest(seed);
            run.go();
            if (run.wrong) {
                wrongRuns++;
                System.out.println("run " + seed + ":");
                run.told.forEach(System.out::println);
            }
        }
        System.out.println(wrongRuns == 0 ? "as due" : wrongRuns + " runs not as due");
        if (wrongRuns != 0) {
            System.exit(1);
        }
    }

    private void go() {
        int most = 1 + any(6);
        // With few copies laws hold now and then, with many hardly ever: runs of both kinds are wanted.
        crowd = 2 + any(7);
        if (any(8) > 0) {
            typed(goodLetter(most));
            is("letter()", x.letter(), y.letter());
        }
        for (int k = 0; k < CALLS && !wrong; k++) {
            step(most);
        }
    }

    private void is(String call, int got, int want) {
        told.add(call + " = " + got);
        if (got != want) {
            told.add("  due is " + want);
            wrong = true;
        }
    }

    private int any(int n) {
        return random.nextInt(n);
    }

    /** Mostly 0 .. n - 1, now and then beyond. */
    private int near(int n) {
        int r = any(30);
        if (r == 0) {
            return -1 - any(3);
        }
        if (r == 1) {
            return n + any(3);
        }
        if (r == 2) {
            return any(2) == 0 ? Integer.MAX_VALUE - any(2) : Integer.MIN_VALUE + any(2);
        }
        return any(Math.max(1, n));
    }

    private int someSet() {
        int all = 1 << y.s.copies.size();
        return any(15) == 0 ? any(300) - 10 : any(all);
    }

    private String letters(int most) {
        StringBuilder t = new StringBuilder();
        for (int k = any(most + 1); k > 0; k--) {
            t.append((char) ('a' + any(2)));
        }
        return t.toString();
    }

    private String goodLetter(int most) {
        StringBuilder t = new StringBuilder(letters(3));
        for (int p = most - any(1 + most / 2); p > 0; p--) {
            t.append('[').append(letters(2));
            for (int c = 1 + any(3); c > 0; c--) {
                t.append('/').append(letters(2));
            }
            t.append(']').append(letters(2));
        }
        return t.length() == 0 ? "a" : t.toString();
    }

    private String anyText() {
        StringBuilder t = new StringBuilder();
        for (int k = any(40); k > 0; k--) {
            t.append("a[/]b /[]abc".charAt(any(12)));
        }
        return t.toString();
    }

    private void typed(String text) {
        for (int at = 0; at < text.length(); at += 8) {
            String part = text.substring(at, Math.min(text.length(), at + 8));
            long w = Check.word(part);
            is("type(" + w + ", " + part.length() + ")", x.type(w, part.length()), y.type(w, part.length()));
        }
    }

    private void newLetter(int most) {
        typed(any(3) == 0 ? anyText() : goodLetter(most));
        is("letter()", x.letter(), y.letter());
    }

    private void newCopy() {
        int lane = any(3);
        int n = y.s.places.size();
        int extra = Math.min(12 - n, any(3));
        is("sheet", x.sheet(0, lane, n + extra), y.sheet(0, lane, n + extra));
        for (int k = 0; k < n; k++) {
            int choices = y.choices(k);
            int v = any(40) == 0 ? any(7) - 2 : any(choices);
            is("item(0, " + lane + ", " + (extra + k) + ", " + v + ")",
                x.item(0, lane, extra + k, v), y.item(0, lane, extra + k, v));
        }
        is("copyOf(0, " + lane + ", " + extra + ")", x.copyOf(0, lane, extra), y.copyOf(0, lane, extra));
    }

    /** A text that reads as some row, or nearly. */
    private void newPrint() {
        StringBuilder t = new StringBuilder();
        for (int p = 0; p < y.s.places.size(); p++) {
            t.append(y.s.plain.get(p));
            List<String> c = y.s.places.get(p);
            int v = any(c.size() + 1);
            t.append(v == c.size() ? "" : c.get(v));
        }
        t.append(y.s.letter == null ? "" : y.s.plain.get(y.s.places.size()));
        if (any(4) == 0) {
            t.append('a');
        }
        typed(t.toString());
        is("printed()", x.printed(), y.printed());
        for (int p = 0; p < y.s.places.size(); p++) {
            int v = y.s.print[p];
            is("print(" + p + ", " + v + ")", x.print(p, v), y.print(p, v));
        }
    }

    private void step(int most) {
        int places = y.s.places.size();
        int copies = y.s.copies.size();
        int a = near(places);
        int b = near(4);
        int c = near(copies);
        int set = someSet();
        switch (any(44)) {
            case 0 -> {
                long w = any(3) == 0 ? random.nextLong() : 0x6161616161616161L;
                int n = near(10);
                is("type(" + w + ", " + n + ")", x.type(w, n), y.type(w, n));
            }
            case 1 -> {
                if (any(6) == 0) {
                    newLetter(most);
                }
            }
            case 2 -> is("choices(" + a + ")", x.choices(a), y.choices(a));
            case 3, 4 -> {
                int v = near(10);
                is("cost(" + a + ", " + b + ", " + v + ")", x.cost(a, b, v), y.cost(a, b, v));
            }
            case 5 -> {
                int v = near(5) - 1;
                is("mended(" + a + ", " + v + ")", x.mended(a, v), y.mended(a, v));
            }
            case 6, 7, 8, 9 -> {
                if (copies < crowd || any(9) == 0) {
                    newCopy();
                } else if (any(2) == 0) {
                    is("burn(" + c + ")", x.burn(c), y.burn(c));
                }
            }
            case 10 -> is("choice(" + c + ", " + a + ")", x.choice(c, a), y.choice(c, a));
            case 11 -> {
                if (any(2) == 0) {
                    is("burn(" + c + ")", x.burn(c), y.burn(c));
                }
            }
            case 12, 13 -> {
                int i = near(20);
                is("reads(" + c + ", " + i + ")", x.reads(c, i), y.reads(c, i));
            }
            case 14 -> is("costOf(" + c + ")", x.costOf(c), y.costOf(c));
            case 15 -> {
                int v = near(4);
                is("set(0, " + v + ")", x.set(0, v), y.set(0, v));
            }
            case 16 -> {
                int what = near(2);
                int v = near(3);
                is("set(" + what + ", " + v + ")", x.set(what, v), y.set(what, v));
            }
            case 17 -> {
                int what = near(6);
                is("count(" + what + ")", x.count(what), y.count(what));
            }
            case 18, 19 -> {
                int v = near(6);
                is("print(" + a + ", " + v + ")", x.print(a, v), y.print(a, v));
            }
            case 20 -> newPrint();
            case 21 -> is("printed()", x.printed(), y.printed());
            case 22 -> is("could(" + set + ")", x.could(set), y.could(set));
            case 23 -> {
                int i = near(20);
                is("maker(" + i + ")", x.maker(i), y.maker(i));
            }
            case 24 -> {
                int what = near(2);
                is("blamed(" + what + ")", x.blamed(what), y.blamed(what));
            }
            case 25 -> is("unjust(" + set + ")", x.unjust(set), y.unjust(set));
            default -> stepFurther(a, b, c, set);
        }
    }

    private void stepFurther(int a, int b, int c, int set) {
        int law = near(3);
        int what = near(2);
        switch (any(19)) {
            case 0 -> is("holds(" + law + ")", x.holds(law), y.holds(law));
            case 1 -> {
                int w = law == 2 ? a : what;
                is("breach(" + law + ", " + w + ")", x.breach(law, w), y.breach(law, w));
            }
            case 2 -> is("fewest(" + law + ")", x.fewest(law), y.fewest(law));
            case 3, 4 -> is("more(" + what + ", " + a + ")", x.more(what, a), y.more(what, a));
            case 5 -> is("score(" + c + ")", x.score(c), y.score(c));
            case 6 -> {
                int bar = near(7);
                is("wrong(" + bar + ", " + what + ")", x.wrong(bar, what), y.wrong(bar, what));
            }
            case 7 -> {
                int q = any(2) == 0 ? near(10000) : near(300);
                is("bar(" + q + ")", x.bar(q), y.bar(q));
            }
            case 8, 9 -> is("put(" + a + ", " + b + ")", x.put(a, b), y.put(a, b));
            case 10 -> is("putAll()", x.putAll(), y.putAll());
            case 11 -> {
                int w = any(3) == 0 ? -1 : a;
                is("hidden(" + set + ", " + w + ")", x.hidden(set, w), y.hidden(set, w));
            }
            case 12 -> is("keep()", x.keep(), y.keep());
            case 13, 14 -> is("past(" + c + ", " + what + ")", x.past(c, what), y.past(c, what));
            case 15 -> {
                if (any(4) == 0) {
                    is("image()", x.image(), y.image());
                }
            }
            case 16 -> {
                if (any(4) == 0) {
                    is("restore()", x.restore(), y.restore());
                }
            }
            default -> stepSheets();
        }
    }

    private void stepSheets() {
        int s = near(4);
        int t = near(4);
        int lane = near(3);
        int i = near(6);
        int j = near(6);
        int n = near(6);
        switch (any(5)) {
            case 0, 1 -> is("sheet(" + s + ", " + lane + ", " + (n + 4) + ")", x.sheet(s, lane, n + 4), y.sheet(s, lane, n + 4));
            case 2 -> is("drop(" + s + ")", x.drop(s), y.drop(s));
            case 3 -> {
                int v = any(3) == 0 ? random.nextInt() : 256 * any(3) + any(4);
                is("item(" + s + ", " + lane + ", " + i + ", " + v + ")", x.item(s, lane, i, v), y.item(s, lane, i, v));
            }
            default -> is("copy(" + s + ", " + i + ", " + t + ", " + j + ", " + n + ")", x.copy(s, i, t, j, n), y.copy(s, i, t, j, n));
        }
        is("copyOf(" + s + ", " + lane + ", " + i + ")", x.copyOf(s, lane, i), y.copyOf(s, lane, i));
    }
}
