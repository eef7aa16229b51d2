/** Promises 24 to 33: chance, reading, hiding, the past, images. */
public final class ChanceTest {
    private static final Check check = new Check();

    public static void main(String[] args) {
        score();
        wrong();
        bar();
        put();
        putAll();
        hidden();
        hiddenOfSix();
        hiddenRefusals();
        keep();
        past();
        image();
        imageOfNothing();
        check.end();
    }

    private static void score() {
        CommaCopies x = Check.with("[a/b]-[c/d/e]-[f/g]", Check.row(0, 2, 1), Check.row(1, 2, 1));
        check.due("24 lost", x.score(0), 0);
        Check.print(x, 0, 2, 4);
        check.due("24 two", x.score(0), 2);
        check.due("24 one", x.score(1), 1);
        x.mended(2, 1);
        check.due("24 mended does not count", x.score(0), 2);
        check.due("24 above", x.score(2), -1);
        check.due("24 below", x.score(-1), -1);
    }

    private static void wrong() {
        CommaCopies x = Check.with("[a/b]-[c/d/e]-[f/g]");
        Check.print(x, 0, 2, 1);
        // Of 12 rows: 2 score 0, 5 score 1, 4 score 2, 1 scores 3; so 12, 10, 5, 1 do so or more.
        int[] above = {1, 5, 5, 1, 0};
        int[] below = {1, 6, 12, 12, 1};
        for (int k = 0; k < above.length; k++) {
            check.due("25 above " + k, x.wrong(k, 0), above[k]);
            check.due("25 below " + k, x.wrong(k, 1), below[k]);
        }
        check.due("25 bar 6", x.wrong(6, 0), 0);
        check.due("25 bar 6 below", x.wrong(6, 1), 1);
        x.print(0, 4);
        check.due("25 left out: no row has it", x.wrong(1, 0), 2);
        check.due("25 left out below", x.wrong(1, 1), 3);
        check.due("25 bar above", x.wrong(7, 0), -1);
        check.due("25 bar below", x.wrong(-1, 0), -1);
        check.due("25 part above", x.wrong(0, 2), -1);
        check.due("25 part below", x.wrong(0, -1), -1);
        check.due("25 no letter", new CommaCopies().wrong(0, 0), -2);
        check.due("25 BAD ahead of NOT", new CommaCopies().wrong(7, 0), -1);
    }

    private static void bar() {
        CommaCopies x = Check.with("[a/b]-[c/d/e]-[f/g]");
        Check.print(x, 0, 2, 1);
        check.due("26 1", x.bar(1), 0);
        check.due("26 2", x.bar(2), 2);
        check.due("26 3", x.bar(3), 3);
        check.due("26 12", x.bar(12), 3);
        check.due("26 13", x.bar(13), 4);
        check.due("26 9999", x.bar(9999), 4);
        check.due("26 0", x.bar(0), -1);
        check.due("26 10000", x.bar(10000), -1);
        check.due("26 no letter", new CommaCopies().bar(1), -2);
        check.due("26 BAD ahead of NOT", new CommaCopies().bar(0), -1);
        CommaCopies y = Check.with("[a/b/c/d][a/b/c/d][a/b/c/d][a/b/c/d][a/b/c/d][a/b/c/d]");
        Check.print(y, 0, 1, 2, 3, 0, 1);
        check.due("26 4096", y.bar(4096), 6);
        check.due("26 none is enough", y.bar(4097), -4);
        check.due("25 4096", y.wrong(6, 1), 4096);
    }

    private static CommaCopies costly() {
        CommaCopies x = Check.with("[a/b]-[c/d/e]", Check.row(0, 0), Check.row(0, 1), Check.row(1, 1));
        x.cost(0, 0, 5);
        x.cost(0, 1, 2);
        x.cost(1, 0, 3);
        x.cost(1, 1, 4);
        x.cost(1, 2, 3);
        return x;
    }

    private static void put() {
        CommaCopies x = costly();
        check.due("27 the dear one for the rare", x.put(0, 0), 1);
        check.due("27 and round", x.put(0, 1), 0);
        check.due("27 of like ones the first", x.put(1, 0), 0);
        check.due("27 the second", x.put(1, 1), 2);
        check.due("27 what nobody has", x.put(1, 2), 1);
        check.due("27 changes nothing", x.choice(0, 0), 0);
        check.due("27 place above", x.put(2, 0), -1);
        check.due("27 place below", x.put(-1, 0), -1);
        check.due("27 choice above", x.put(0, 2), -1);
        check.due("27 choice below", x.put(0, -1), -1);
        CommaCopies y = Check.with("[a/b/c/d]");
        y.cost(0, 0, 9);
        for (int k = 0; k < 4; k++) {
            check.due("27 no copies", y.put(0, k), k);
        }
    }

    private static void putAll() {
        CommaCopies x = costly();
        Check.print(x, 0, 1);
        x.mended(1, 1);
        x.keep();
        check.due("28 sum", x.putAll(), 2 + 2 + 5 + 3 + 3 + 3);
        check.due("28 copy 0", x.choice(0, 0) * 10 + x.choice(0, 1), 10);
        check.due("28 copy 1", x.choice(1, 0) * 10 + x.choice(1, 1), 12);
        check.due("28 copy 2", x.choice(2, 0) * 10 + x.choice(2, 1), 2);
        check.due("28 the print stays", x.print(0, 0) * 10 + x.print(1, 1), 1);
        check.due("28 mended stays", x.mended(1, 1), 1);
        check.due("28 costs stay", x.cost(0, 0, 5), 5);
        check.due("28 pasts stay, by copies of now: sure", x.past(2, 0), 1);
        check.due("28 pasts stay, by copies of now: not sure", x.past(0, 0), 0);
        check.due("28 pasts stay, by copies of now: may be", x.past(0, 1), 1);
        check.due("28 again", x.putAll(), 18);
        check.due("28 no letter", new CommaCopies().putAll(), -2);
        check.due("28 no copies", Check.with("[a/b]").putAll(), 0);
    }

    private static void hidden() {
        CommaCopies x = Check.with("[a/b/c]-[d/e/f]", Check.row(0, 0), Check.row(1, 1), Check.row(0, 1));
        check.due("29 alone", x.hidden(2, -1), 2);
        check.due("29 alone, value", x.hidden(2, 0) * 10 + x.hidden(2, 1), 11);
        check.due("29 two", x.hidden(3, -1), 1);
        check.due("29 two, the first", x.hidden(3, 0) * 10 + x.hidden(3, 1), 1);
        check.due("29 alike at one", x.hidden(5, -1), 2);
        check.due("29 more than N", x.hidden(7, -1), 1);
        check.due("29 more than N, the first", x.hidden(7, 0) * 10 + x.hidden(7, 1), 10);
        x.set(1, 1);
        check.due("29 any", x.hidden(3, -1), 0);
        check.due("29 any, value", x.hidden(3, 0) * 10 + x.hidden(3, 1), 22);
        x.set(1, 2);
        check.due("29 leave", x.hidden(3, -1), 0);
        check.due("29 leave, value", x.hidden(3, 0) * 10 + x.hidden(3, 1), 44);
        x.set(1, 0);
        x.mended(0, 2);
        check.due("29 mended", x.hidden(2, -1), 1);
        check.due("29 mended, value", x.hidden(2, 0) * 10 + x.hidden(2, 1), 21);
    }

    private static void hiddenOfSix() {
        CommaCopies x = Check.with("[a/b][a/b][a/b][a/b][a/b][a/b]", Check.row(1, 0, 1, 1, 0, 1), Check.row(0, 1, 0, 0, 1, 0));
        check.due("29 six alone", x.hidden(1, -1), 6);
        check.due("29 six alone, the last", x.hidden(1, 5), 1);
        check.due("29 three of each", x.hidden(3, -1), 3);
        // 000000 scores 4 for copy 1; 000001 scores 3 for each: places 1, 4, 5 and places 0, 2, 3.
        int[] want = {0, 0, 0, 0, 0, 1};
        for (int p = 0; p < 6; p++) {
            check.due("29 three of each, " + p, x.hidden(3, p), want[p]);
        }
        for (int c = 2; c < 8; c++) {
            Check.copy(x, 1, 0, 1, 1, 0, 1);
        }
        check.due("29 eight", x.hidden(255, -1), 3);
        check.due("29 the last of eight", x.hidden(128, -1), 6);
    }

    private static void hiddenRefusals() {
        CommaCopies x = Check.with("[a/b/c]-[d/e/f]", Check.row(0, 0));
        check.due("29 no copy", x.hidden(0, 0), -1);
        check.due("29 no such copy", x.hidden(2, 0), -1);
        check.due("29 set below", x.hidden(-1, 0), -1);
        check.due("29 place above", x.hidden(1, 2), -1);
        check.due("29 what below", x.hidden(1, -2), -1);
    }

    private static void keep() {
        CommaCopies x = Check.with("[a/b]");
        for (int k = 0; k < 6; k++) {
            check.due("30 keep", x.keep(), k);
        }
        check.due("30 full", x.keep(), -3);
        check.due("30 six", x.count(2), 6);
        check.due("30 no letter", new CommaCopies().keep(), -2);
    }

    private static void past() {
        CommaCopies x = Check.with("[a/b]-[c/d]", Check.row(0, 0), Check.row(1, 1));
        Check.print(x, 0, 1);
        x.keep();
        x.set(0, 1);
        x.keep();
        x.print(1, 0);
        x.keep();
        x.set(1, 2);
        x.set(0, 2);
        x.print(1, 4);
        x.keep();
        x.set(1, 0);
        Check.print(x, 5, 5);
        check.due("31 sure 0", x.past(0, 0), 3);
        check.due("31 sure 1", x.past(1, 0), 2);
        check.due("31 may be 0", x.past(0, 1), 3);
        check.due("31 may be 1", x.past(1, 1), 2);
        Check.copy(x, 0, 0);
        check.due("31 a twin of now: sure", x.past(0, 0), 0);
        check.due("31 a twin of now: may be", x.past(2, 1), 3);
        check.due("31 above", x.past(3, 0), -1);
        check.due("31 below", x.past(-1, 0), -1);
        check.due("31 what above", x.past(0, 2), -1);
        check.due("31 what below", x.past(0, -1), -1);
        CommaCopies y = Check.with("[a/b]", Check.row(0));
        check.due("31 no past", y.past(0, 1), 0);
    }

    private static void image() {
        CommaCopies x = Check.with("x[a/b]-[c/d/e]", Check.row(0, 2), Check.row(1, 1));
        x.cost(1, 2, 8);
        x.mended(0, 1);
        Check.print(x, 4, 2);
        x.set(0, 3);
        x.set(1, 1);
        x.keep();
        x.sheet(0, 0, 5);
        check.due("32 image", x.image(), 1);
        x.drop(0);
        x.sheet(1, 2, 7);
        x.burn(0);
        x.mended(0, -1);
        x.print(0, 5);
        x.cost(1, 2, 1);
        x.set(0, 1);
        x.set(1, 0);
        x.keep();
        Check.letter(x, "[q/r/s]");
        Check.copy(x, 2);
        x.type('z', 1);
        for (int k = 0; k < 2; k++) {
            check.due("33 restore", x.restore(), 1);
            check.due("33 places", x.count(0), 2);
            check.due("33 bytes", x.count(3), 14);
            check.due("33 copies", x.count(1), 2);
            check.due("33 pasts", x.count(2), 1);
            check.due("33 reads", Check.readsAll(x, 0).equals("xa-e") ? 1 : 0, 1);
            check.due("33 cost", x.cost(1, 2, 0), 8);
            check.due("33 mended", x.mended(0, -1), 1);
            check.due("33 print", x.print(0, 0), 4);
            check.due("33 print 1", x.print(1, 0), 2);
            check.due("33 N", x.set(0, 2), 3);
            check.due("33 HOW", x.set(1, 2), 1);
            x.burn(0);
        }
        check.due("33 sheets stay", x.drop(1), 7);
        check.due("33 sheets stay dropped", x.drop(0), -11);
        check.due("33 tape stays", x.type('z', 1), 2);
    }

    private static void imageOfNothing() {
        CommaCopies x = new CommaCopies();
        check.due("33 none", x.restore(), -4);
        check.due("32 of nothing", x.image(), 1);
        Check.letter(x, "[a/b]");
        Check.copy(x, 1);
        check.due("33 to nothing", x.restore(), 1);
        check.due("33 no letter", x.keep(), -2);
        check.due("33 no copies", x.count(1), 0);
        check.due("33 no place", x.choices(0), -1);
        Check.letter(x, "[a/b]");
        check.due("32 over the older one", x.image(), 1);
        x.restore();
        check.due("33 the newer one", x.count(0), 1);
    }
}
