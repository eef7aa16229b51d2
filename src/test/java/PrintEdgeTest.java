/** Boundary sentences of promises 14 to 19 and of the terms of part 2, each in a method of its own. */
public final class PrintEdgeTest {
    private static final Edge edge = new Edge();
    private static final Check check = edge.check;
    private static final int MIN = Edge.MIN;
    private static final int MAX = Edge.MAX;

    public static void main(String[] args) {
        printBounds();
        printRefusals();
        printedIsThePrint();
        printedNone();
        printedNot();
        printedOfNoByte();
        printedLongest();
        printedFirstRow();
        printedLeftOutLast();
        printedLeavesNoPlaceLost();
        canAtAPlace();
        canMended();
        couldBounds();
        couldMoreThanN();
        makerBounds();
        makerOrder();
        makerUpToN();
        blamedBounds();
        blamedNothing();
        unjustBounds();
        unjustAnswers();
        edge.end();
    }

    private static void printBounds() {
        Scene s = Scene.PLAIN;
        int[] had = {1, 4, 5};
        int[] last = {1, 2, 3};
        for (int p = 0; p < 3; p++) {
            int place = p;
            for (int v : new int[] {0, last[p], 4, 5}) {
                edge.comesBack("14 " + v + " at " + p, s, had[p], x -> x.print(place, v), v, x -> x.print(place, had[place]));
            }
        }
        edge.comesBack("14 the sixth PLACE", Scene.BRIM, 5, x -> x.print(5, 3), 3, x -> x.print(5, 5));
    }

    private static void printRefusals() {
        Scene s = Scene.PLAIN;
        edge.leavesEach("14 no CHOICE of two", s, -1, (x, v) -> x.print(0, v), 2, 3, 6, -1, MIN, MAX);
        edge.leavesEach("14 no CHOICE of three", s, -1, (x, v) -> x.print(1, v), 3, 6, -1, MIN, MAX);
        edge.leavesEach("14 no CHOICE of four", s, -1, (x, v) -> x.print(2, v), 6, 7, -1, MIN, MAX);
        for (int v : new int[] {0, 4, 5}) {
            edge.leavesEach("14 no such PLACE", s, -1, (x, place) -> x.print(place, v), -1, 3, 6, MIN, MAX);
            edge.leavesEach("14 no seventh PLACE", Scene.BRIM, -1, (x, place) -> x.print(place, v), -1, 6, MIN, MAX);
        }
    }

    /** THE TAPE, which is empty then, is THE PRINT, and nothing else changes. */
    private static void printedIsThePrint() {
        String[] texts = {"Gobb-12345678!", "Goa-e!", "Go-!", "Gobb-ddg!", "Go-cf!"};
        int[][] rows = {{1, 0, 3}, {0, 0, 0}, {4, 0, 4}, {1, 2, 2}, {4, 1, 1}};
        for (int k = 0; k < texts.length; k++) {
            String text = texts[k];
            int[] row = rows[k];
            edge.same("15 " + text, () -> {
                CommaCopies x = Scene.PLAIN.make(text);
                check.due("15 " + text, x.printed(), 1);
                return x;
            }, () -> {
                CommaCopies x = Scene.PLAIN.make("");
                Check.print(x, row);
                return x;
            });
        }
    }

    /** No ROW READS so: THE TAPE is empty then, THE PRINT stays. */
    private static void printedNone() {
        String[] texts = {"", "G", "Goa-e", "Goa-e!!", "goa-e!", "Gob-e!", "Goabb-e!", "Goa-ef!", "Goa-cdde!", "Go!",
            "!", "Goa-1234567!", "Goa-123456789!", "Go[a]-e!", "x".repeat(120)};
        for (String text : texts) {
            edge.empties("15 NONE of '" + text + "'", Scene.PLAIN, text, -4, x -> x.printed());
        }
        edge.empties("15 NONE", Scene.EMPTY, "xay", -4, x -> x.printed());
        edge.empties("15 NONE of 120", Scene.BRIM, "-".repeat(120), -4, x -> x.printed());
        edge.empties("15 NONE of no byte", Scene.BRIM, "", -4, x -> x.printed());
    }

    /** "In both" is read so that THE TAPE is empty after NOT, too. */
    private static void printedNot() {
        for (String text : new String[] {"", "a", "x[y/zz]", "a".repeat(120)}) {
            edge.empties("15 NOT of '" + text + "'", Scene.NEW, text, -2, x -> x.printed());
            edge.empties("15 NOT of '" + text + "'", Scene.BLANK, text, -2, x -> x.printed());
        }
    }

    private static int printedAs(String letter, String text) {
        CommaCopies x = Check.with(letter);
        int answer = Check.printed(x, text);
        if (answer != 1) {
            return answer;
        }
        int number = 0;
        for (int p = 0; p < x.count(0); p++) {
            number = number * 10 + x.print(p, 5);
        }
        return number;
    }

    private static void printedOfNoByte() {
        check.due("15 no byte: LEFT OUT", printedAs("[a/b]", ""), 4);
        check.due("15 no byte: a CHOICE of no byte", printedAs("[a/]", ""), 1);
        check.due("15 no byte: the first CHOICE of no byte", printedAs("[a//]", ""), 1);
        check.due("15 no byte: six PLACES", printedAs("[a/b][/b][a/b][a/][a/b/c/d][a/b/c/]", ""), 404143);
        check.due("15 no byte: a byte outside", printedAs("[a/b]x", ""), -4);
    }

    private static void printedLongest() {
        check.due("15 120 bytes", printedAs("x".repeat(120), "x".repeat(120)), 0);
        check.due("15 119 of 120 bytes", printedAs("x".repeat(120), "x".repeat(119)), -4);
        check.due("15 120 bytes, the last unlike", printedAs("x".repeat(120), "x".repeat(119) + "y"), -4);
        check.due("15 a longer text than THE LETTER reads", printedAs("[a/b]", "a".repeat(120)), -4);
        String letter = "[12345678/23456789/34567890/45678901]" + "[a/b/c/d]".repeat(5) + "-".repeat(38);
        check.due("15 six PLACES, the last CHOICES", printedAs(letter, "45678901ddddd" + "-".repeat(38)), 333333);
        check.due("15 six PLACES, one too few", printedAs(letter, "45678901dddd" + "-".repeat(38)), 333334);
    }

    /** 0 first, PLACE 0 counts most. */
    private static void printedFirstRow() {
        check.due("15 like CHOICES: the first", printedAs("[a/a/a]", "a"), 0);
        check.due("15 PLACE 0 counts most", printedAs("[aa/a/][a/aa/]", "aa"), 2);
        check.due("15 PLACE 0 has the least that does", printedAs("[b/aa/a][a/aa]", "aaa"), 10);
        check.due("15 what is first must let the rest stand", printedAs("[a/ab][c/bc]", "abc"), 1);
        check.due("15 what is first must let the rest stand, too", printedAs("[a/ab][c/d]", "abc"), 10);
    }

    /** CHOICES, or LEFT OUT for no byte at all there; LEFT OUT last. */
    private static void printedLeftOutLast() {
        check.due("15 LEFT OUT behind CHOICE 3", printedAs("[a/b/c/]x", "x"), 3);
        check.due("15 LEFT OUT at PLACE 1, not at 0", printedAs("[a/b][a/b]", "a"), 4);
        check.due("15 LEFT OUT at PLACE 0", printedAs("[a/b][c/d]", "c"), 40);
        check.due("15 LEFT OUT at both", printedAs("[a/b][c/d]", ""), 44);
    }

    private static void printedLeavesNoPlaceLost() {
        CommaCopies x = Scene.BRIM.make("12345678aaaaa" + "-".repeat(38));
        check.due("15 LOST ahead", x.count(5), 6);
        check.due("15 printed", x.printed(), 1);
        check.due("15 nothing LOST", x.count(5), 0);
    }

    /** Which of 0 .. 4 a set CAN at the only PLACE, as bits. */
    private static int cans(CommaCopies x, int set) {
        int bits = 0;
        for (int v = 0; v <= 4; v++) {
            if (x.print(0, v) >= 0) {
                bits |= x.could(set) << v;
            }
        }
        return bits;
    }

    private static void canAtAPlace() {
        CommaCopies x = Check.with("[a/b/c]", Check.row(0), Check.row(2), Check.row(2), Check.row(1));
        int[][] due = {
            // one alone, two alike, two unlike, three of two kinds, all kinds
            {1, 4, 5, 5, 7}, {1, 4, 7, 7, 7}, {1, 4, 21, 21, 23}};
        int[] sets = {1, 6, 3, 7, 15};
        for (int how = 0; how < 3; how++) {
            x.set(1, how);
            for (int k = 0; k < sets.length; k++) {
                check.due("16 HOW " + how + ", set " + sets[k], cans(x, sets[k]), due[how][k]);
            }
        }
        x.print(0, 5);
        check.due("16 LOST", x.could(1), 1);
    }

    /** What the paper MENDS to CAN always be, too; this makes nobody unlike. */
    private static void canMended() {
        CommaCopies x = Check.with("[a/b/c]", Check.row(0), Check.row(2));
        x.mended(0, 1);
        int[] alone = {3, 3, 3};
        int[] both = {7, 7, 23};
        for (int how = 0; how < 3; how++) {
            x.set(1, how);
            check.due("16 MENDED, alone, HOW " + how, cans(x, 1), alone[how]);
            check.due("16 MENDED, both, HOW " + how, cans(x, 3), both[how]);
        }
        x.mended(0, 0);
        x.set(1, 0);
        check.due("16 MENDED to CHOICE 0", cans(x, 2), 5);
        x.mended(0, 2);
        check.due("16 MENDED to what it has", cans(x, 2), 4);
    }

    private static void couldBounds() {
        Scene s = Scene.PLAIN;
        edge.leavesEach("16 could not", s, 0, (x, v) -> x.could(v), 1, 2, 4, 5);
        edge.leavesEach("16 could", s, 1, (x, v) -> x.could(v), 3, 6);
        edge.leavesEach("16 no COPY", s, -1, (x, v) -> x.could(v), 0);
        edge.leavesEach("16 no such COPY", s, -1, (x, v) -> x.could(v), 8, 9, 15, 128, 256, -1, -8, MIN, MIN + 1, MAX);
        edge.leavesEach("16 no such COPY of eight", Scene.BRIM, -1, (x, v) -> x.could(v), 0, 256, -1, MIN, MIN + 1, MAX);
    }

    private static void couldMoreThanN() {
        edge.leaves("16 of more than N", Scene.PLAIN, 1, x -> x.could(7));
        edge.leaves("16 of eight, N is 3", Scene.BRIM, 1, x -> x.could(255));
        CommaCopies x = Scene.PLAIN.make();
        x.set(0, 1);
        check.due("16 of two, N is 1", x.could(3), 1);
        check.due("13 but it does not count", x.count(4), 0);
    }

    private static void makerBounds() {
        Scene s = Scene.PLAIN;
        edge.leaves("17 the first", s, 3, x -> x.maker(0));
        edge.leaves("17 the last", s, 6, x -> x.maker(1));
        edge.leavesEach("17 behind the last", s, -4, (x, v) -> x.maker(v), 2, 3, 92, MAX);
        edge.leavesEach("17 below 0", s, -1, (x, v) -> x.maker(v), -1, MIN);
        edge.leavesEach("17 below 0, no LETTER", Scene.NEW, -1, (x, v) -> x.maker(v), -1, MIN);
        edge.leavesEach("17 far, no LETTER", Scene.NEW, -4, (x, v) -> x.maker(v), 0, MAX);
    }

    /** Fewer COPIES first, of like ones the least set. */
    private static void makerOrder() {
        CommaCopies x = Scene.BRIM.make();
        int before = 0;
        for (int i = 0; i < 92; i++) {
            int set = x.maker(i);
            int rank = Integer.bitCount(set) * 256 + set;
            check.due("17 set " + i + " comes behind", rank > before ? 1 : 0, 1);
            check.due("17 set " + i + " has 1 to 3", Integer.bitCount(set) <= 3 ? 1 : 0, 1);
            before = rank;
        }
    }

    private static void makerUpToN() {
        int[] sets = {8, 36, 92};
        int[] last = {128, 192, 224};
        for (int n = 1; n <= 3; n++) {
            CommaCopies x = Scene.BRIM.make();
            x.set(0, n);
            check.due("13 N = " + n, x.count(4), sets[n - 1]);
            check.due("17 the last, N = " + n, x.maker(sets[n - 1] - 1), last[n - 1]);
            check.due("17 behind it, N = " + n, x.maker(sets[n - 1]), -4);
        }
    }

    private static void blamedBounds() {
        Scene s = Scene.PLAIN;
        edge.leaves("18 SURE", s, 2, x -> x.blamed(0));
        edge.leaves("18 MAY BE", s, 7, x -> x.blamed(1));
        edge.leavesEach("18 no such thing", s, -1, (x, v) -> x.blamed(v), -1, 2, MIN, MAX);
        edge.leavesEach("18 no such thing, no LETTER", Scene.NEW, -1, (x, v) -> x.blamed(v), -1, 2, MIN, MAX);
    }

    /** Both nothing, if there is no such set. */
    private static void blamedNothing() {
        CommaCopies x = Check.with("[a/b/c]", Check.row(0), Check.row(1));
        x.print(0, 2);
        check.due("18 no set: SURE", x.blamed(0), 0);
        check.due("18 no set: MAY BE", x.blamed(1), 0);
        check.due("13 no set", x.count(4), 0);
        check.due("17 no set", x.maker(0), -4);
        x.print(0, 1);
        check.due("18 SURE", x.blamed(0), 2);
        check.due("18 MAY BE", x.blamed(1), 3);
        CommaCopies one = Check.with("[a/b]", Check.row(0));
        check.due("18 one COPY, LOST: SURE", one.blamed(0), 1);
    }

    private static void unjustBounds() {
        Scene s = Scene.PLAIN;
        edge.leavesEach("19 no COPY", s, -1, (x, v) -> x.unjust(v), 0);
        edge.leavesEach("19 no such COPY", s, -1, (x, v) -> x.unjust(v), 8, 10, 256, -1, MIN, MIN + 2, MAX);
        edge.leavesEach("19 no such COPY of eight", Scene.BRIM, -1, (x, v) -> x.unjust(v), 0, 256, -1, MIN, MAX);
    }

    private static void unjustAnswers() {
        Scene s = Scene.PLAIN;
        edge.leaves("19 all are SURE", s, -4, x -> x.unjust(2));
        edge.leavesEach("19 the least is not", s, 0, (x, v) -> x.unjust(v), 1, 3, 5, 7);
        edge.leavesEach("19 the last is not", s, 2, (x, v) -> x.unjust(v), 4, 6);
        CommaCopies x = s.make();
        x.set(0, 1);
        check.due("19 NOT: no set COULD", x.unjust(2), -2);
        check.due("19 BAD ahead of NOT", x.unjust(0), -1);
        check.due("19 BAD ahead of NOT, above", x.unjust(8), -1);
    }
}
