/** Boundary sentences of promises 20 to 23 and of the terms of part 3, each in a method of its own. */
public final class LawEdgeTest {
    private static final Edge edge = new Edge();
    private static final Check check = edge.check;
    private static final int MIN = Edge.MIN;
    private static final int MAX = Edge.MAX;

    public static void main(String[] args) {
        holdsBounds();
        holdsForOneCopy();
        holdsByN();
        printsWithoutLost();
        breachBounds();
        breachNone();
        breachFramedLeast();
        breachApartFirstOther();
        breachNamedValues();
        fewestBounds();
        fewestNoPlace();
        fewestAllSix();
        fewestOfLikeOnes();
        fewestNotByAll();
        fewestAsIfThereWereNoOthers();
        moreBounds();
        moreUpToEight();
        moreNoRowLeft();
        moreOrder();
        moreBrokenAlready();
        moreFramedByTheFirst();
        moreWithTheFirst();
        moreOfWhatWent();
        namedByEachThree();
        namedThoughFourWouldDo();
        namedByTheLastSetsAlone();
        fewerPlacesThanAhead();
        fewerCopiesThanAhead();
        edge.end();
    }

    private static void holdsBounds() {
        Scene s = Scene.PLAIN;
        edge.leaves("20 FRAMED", s, 1, x -> x.holds(0));
        edge.leaves("20 APART", s, 1, x -> x.holds(1));
        edge.leaves("20 NAMED", s, 0, x -> x.holds(2));
        for (Scene any : Scene.values()) {
            edge.leavesEach("20 no such LAW", any, -1, (x, v) -> x.holds(v), -1, 3, MIN, MAX);
        }
    }

    private static void holdsForOneCopy() {
        for (int n = 1; n <= 3; n++) {
            CommaCopies x = Check.with("[a/b]", Check.row(1));
            x.set(0, n);
            for (int law = 0; law < 3; law++) {
                check.due("20 one COPY, LAW " + law, x.holds(law), 1);
                check.due("22 one COPY, LAW " + law, x.fewest(law), 0);
            }
        }
    }

    /** Sets of 1 to N: three make the ROW of the fourth, two do not. */
    private static void holdsByN() {
        CommaCopies x = Check.with("[a/b][a/b][a/b]", Check.row(1, 0, 0), Check.row(0, 1, 0), Check.row(0, 0, 1),
            Check.row(1, 1, 1));
        int[] framed = {1, 1, 0};
        for (int n = 1; n <= 3; n++) {
            x.set(0, n);
            check.due("20 FRAMED, N = " + n, x.holds(0), framed[n - 1]);
        }
        check.due("21 by three", x.breach(0, 0), 7);
        check.due("21 the fourth", x.breach(0, 1), 3);
    }

    /** THE PRINT that is told has nothing to do with the LAWS. */
    private static void printsWithoutLost() {
        CommaCopies x = Check.with("[a/b]", Check.row(0), Check.row(1));
        for (int v : new int[] {5, 0, 1, 4}) {
            x.print(0, v);
            for (int law = 0; law < 3; law++) {
                check.due("20 THE PRINT is " + v + ", LAW " + law, x.holds(law), 1);
            }
        }
    }

    private static void breachBounds() {
        for (Scene s : new Scene[] {Scene.NEW, Scene.PLAIN, Scene.BRIM}) {
            for (int what : new int[] {0, 1}) {
                edge.leavesEach("21 no such LAW", s, -1, (x, v) -> x.breach(v, what), -1, 3, MIN, MAX);
            }
            edge.leavesEach("21 FRAMED: a set, a COPY", s, -1, (x, v) -> x.breach(0, v), -1, 2, 5, MIN, MAX);
            edge.leavesEach("21 APART: two sets", s, -1, (x, v) -> x.breach(1, v), -1, 2, 5, MIN, MAX);
            edge.leavesEach("21 NAMED: a PLACE", s, -1, (x, v) -> x.breach(2, v), -1, 6, MIN, MAX);
        }
        edge.leaves("21 NAMED: the fourth PLACE of three", Scene.PLAIN, -1, x -> x.breach(2, 3));
        int[] row = {0, 1, 4};
        for (int p = 0; p < 3; p++) {
            int place = p;
            edge.leaves("21 NAMED at " + p, Scene.PLAIN, row[p], x -> x.breach(2, place));
        }
    }

    /** NONE: it holds; BAD ahead of this. */
    private static void breachNone() {
        Scene s = Scene.PLAIN;
        edge.leavesEach("21 FRAMED holds", s, -4, (x, v) -> x.breach(0, v), 0, 1);
        edge.leavesEach("21 APART holds", s, -4, (x, v) -> x.breach(1, v), 0, 1);
        CommaCopies x = s.make();
        x.set(0, 1);
        for (int p = 0; p < 3; p++) {
            check.due("21 NAMED holds", x.breach(2, p), -4);
        }
        check.due("21 BAD ahead of NONE", x.breach(2, 3), -1);
    }

    /** The first set, and the least COPY that it frames. */
    private static void breachFramedLeast() {
        CommaCopies x = Check.with("[a/b][c/d]", Check.row(1, 1), Check.row(0, 1), Check.row(0, 1), Check.row(0, 1));
        check.due("21 the first set", x.breach(0, 0), 2);
        check.due("21 the least COPY", x.breach(0, 1), 2);
        CommaCopies y = Check.with("[a/b][c/d]", Check.row(0, 0), Check.row(0, 1), Check.row(1, 0), Check.row(1, 1));
        check.due("21 two, as one frames none", y.breach(0, 0), 6);
        check.due("21 COPY 0", y.breach(0, 1), 0);
    }

    private static void breachApartFirstOther() {
        CommaCopies x = Check.with("[a/b/c]", Check.row(2), Check.row(1), Check.row(0), Check.row(1), Check.row(0));
        check.due("21 the first of two pairs", x.breach(1, 0), 2);
        check.due("21 the first other one", x.breach(1, 1), 8);
        x.burn(3);
        check.due("21 the pair that is left", x.breach(1, 0), 4);
        check.due("21 its other one", x.breach(1, 1), 8);
    }

    private static void breachNamedValues() {
        CommaCopies x = Check.with("[a/b/c/d][a/b/c/d]", Check.row(0, 3), Check.row(1, 3), Check.row(2, 3));
        x.set(1, 2);
        check.due("21 LEFT OUT", x.breach(2, 0), 4);
        check.due("21 what all have", x.breach(2, 1), 3);
        x.set(1, 1);
        check.due("21 any", x.breach(2, 0), 0);
        x.set(1, 0);
        check.due("21 NONE by MIX", x.breach(2, 0), -4);
        x.mended(0, 3);
        check.due("21 what the paper MENDS to", x.breach(2, 0), 3);
    }

    private static void fewestBounds() {
        for (Scene s : Scene.values()) {
            edge.leavesEach("22 no such LAW", s, -1, (x, v) -> x.fewest(v), -1, 3, MIN, MAX);
        }
        edge.leaves("22 FRAMED", Scene.PLAIN, 4, x -> x.fewest(0));
        edge.leaves("22 APART", Scene.PLAIN, 4, x -> x.fewest(1));
        edge.leaves("22 NAMED: not by all", Scene.PLAIN, -4, x -> x.fewest(2));
    }

    private static void fewestNoPlace() {
        CommaCopies x = Check.with("[a/b]");
        for (int law = 0; law < 3; law++) {
            check.due("22 no COPY", x.fewest(law), 0);
        }
        Check.copies(x, Check.row(0), Check.row(1));
        for (int law = 0; law < 3; law++) {
            check.due("22 two COPIES", x.fewest(law), 1);
        }
    }

    /** Copy 0 has 0 everywhere, each other one 1 at one place alone: no place can be spared. */
    private static CommaCopies seven() {
        CommaCopies x = Check.with("[a/b]".repeat(6));
        for (int c = 0; c < 7; c++) {
            int[] row = new int[6];
            if (c > 0) {
                row[c - 1] = 1;
            }
            Check.copy(x, row);
        }
        x.set(0, 1);
        return x;
    }

    private static void fewestAllSix() {
        CommaCopies x = seven();
        for (int law = 0; law < 3; law++) {
            check.due("22 all six, LAW " + law, x.fewest(law), 63);
        }
        x.burn(1);
        for (int law = 0; law < 3; law++) {
            check.due("22 five do, LAW " + law, x.fewest(law), 62);
        }
    }

    /** Fewer PLACES ahead of a lesser set, of like ones the least set. */
    private static void fewestOfLikeOnes() {
        CommaCopies x = Check.with("[a/b][a/b][a/b/c]", Check.row(0, 0, 0), Check.row(0, 1, 1), Check.row(1, 0, 2));
        for (int law = 0; law < 3; law++) {
            check.due("22 one PLACE ahead of two", x.fewest(law), 4);
        }
        CommaCopies y = Check.with("[a/b][a/b][a/b]", Check.row(0, 1, 1), Check.row(0, 0, 0));
        for (int law = 0; law < 3; law++) {
            check.due("22 the least of two", y.fewest(law), 2);
        }
    }

    private static void fewestNotByAll() {
        CommaCopies x = seven();
        Check.copy(x, 0, 0, 0, 0, 0, 0);
        for (int law = 0; law < 3; law++) {
            check.due("22 like COPIES", x.fewest(law), -4);
        }
    }

    /** By PLACE 1 alone the paper helps 0 and 2 to copy 1's ROW, though nobody else has copy 1's CHOICE at PLACE 0. */
    private static void fewestAsIfThereWereNoOthers() {
        CommaCopies x = Check.with("[a/b][a/b/c]", Check.row(1, 0), Check.row(0, 1), Check.row(1, 2));
        x.set(0, 1);
        x.mended(1, 1);
        check.due("22 neither PLACE alone by FRAMED", x.fewest(0), 3);
        check.due("22 APART: 0 and 2 make (1, 1) in common", x.fewest(1), -4);
        check.due("22 NAMED: nobody is for (1, 1)", x.fewest(2), -4);
    }

    private static void moreBounds() {
        for (Scene s : Scene.values()) {
            edge.leavesEach("23 no such LAW", s, -1, (x, v) -> x.more(v, 0), -1, 2, 3, MIN, MAX);
            edge.leavesEach("23 no such PLACE", s, -1, (x, v) -> x.more(0, v), -1, 6, MIN, MAX);
        }
        edge.leaves("23 the fourth of three PLACES", Scene.PLAIN, -1, x -> x.more(1, 3));
        int[] row = {0, 0, 2};
        for (int p = 0; p < 3; p++) {
            int place = p;
            edge.leaves("23 FRAMED at " + p, Scene.PLAIN, row[p], x -> x.more(0, place));
            edge.leaves("23 APART at " + p, Scene.PLAIN, -4, x -> x.more(1, place));
        }
    }

    private static void moreUpToEight() {
        CommaCopies x = seven();
        int[] row = {0, 0, 0, 0, 1, 1};
        for (int p = 0; p < 6; p++) {
            check.due("23 the eighth by FRAMED", x.more(0, p), row[p]);
            check.due("23 the eighth by APART", x.more(1, p), row[p]);
        }
        Check.copy(x, row);
        check.due("23 FRAMED still holds", x.holds(0), 1);
        check.due("23 FULL", x.more(0, 0), -3);
        check.due("23 FULL, APART", x.more(1, 5), -3);
        check.due("23 BAD ahead of FULL", x.more(0, 6), -1);
        x.burn(0);
        check.due("23 room for the one that went", x.more(0, 4), 0);
    }

    private static void moreNoRowLeft() {
        CommaCopies x = Check.with("[a/b]", Check.row(0));
        x.set(0, 1);
        check.due("23 the last ROW", x.more(0, 0), 1);
        Check.copy(x, 1);
        check.due("23 no ROW is left", x.more(0, 0), -4);
        check.due("23 no ROW is left, APART", x.more(1, 0), -4);
        CommaCopies y = Check.with("[a/b][a/b]", Check.row(0, 0), Check.row(1, 1));
        check.due("23 ROWS are left, but FRAMED", y.more(0, 0), -4);
        check.due("23 ROWS are left, but not APART", y.more(1, 0), -4);
    }

    /** 0 first, PLACE 0 counts most. */
    private static void moreOrder() {
        CommaCopies x = Check.with("[a/b][c/d/e]");
        x.set(0, 1);
        int[][] rows = {{0, 0}, {0, 1}, {0, 2}, {1, 0}, {1, 1}, {1, 2}};
        for (int[] row : rows) {
            check.due("23 the next at 0", x.more(0, 0), row[0]);
            check.due("23 the next at 1", x.more(1, 1), row[1]);
            Check.copy(x, row);
        }
        check.due("23 all ROWS", x.more(0, 1), -4);
    }

    private static void moreBrokenAlready() {
        CommaCopies x = Check.with("[a/b/c][d/e/f]", Check.row(0, 1), Check.row(0, 1));
        check.due("23 FRAMED is broken", x.more(0, 0), -4);
        check.due("23 APART is broken", x.more(1, 0), -4);
        x.burn(0);
        check.due("23 no more", x.more(0, 0), 0);
    }

    /** Alone, copy 0 makes the ROW (0, 1) by what the paper MENDS to. */
    private static void moreFramedByTheFirst() {
        CommaCopies x = Check.with("[a/b][c/d]", Check.row(0, 0));
        x.set(0, 1);
        x.mended(1, 1);
        check.due("23 not one that copy 0 frames", x.more(0, 0), 1);
        check.due("23 but the next", x.more(0, 1), 0);
    }

    /** The new COPY joins copy 0 against copy 1, or copy 1 against copy 0: no ROW is left. */
    private static void moreWithTheFirst() {
        CommaCopies x = Check.with("[a/b][a/b]", Check.row(0, 0), Check.row(0, 1));
        check.due("23 FRAMED by copy 0 and the new one", x.more(0, 0), -4);
        check.due("23 APART from copy 0", x.more(1, 0), -4);
        x.set(0, 1);
        check.due("23 nobody joins", x.more(0, 0) * 10 + x.more(0, 1), 10);
    }

    /** Copy 0 has 0 everywhere, three others at two places each, the last of them as told; nobody else has a 0. */
    private static void three(CommaCopies x, int set, int lastValue) {
        while (x.count(1) > 0) {
            x.burn(0);
        }
        Check.copy(x, 0, 0, 0, 0, 0, 0);
        int at = 0;
        for (int c = 1; c < 8; c++) {
            int[] row = {1 + c % 3, 1 + c / 3, 1, 2, 3, 1 + c % 2};
            if ((set >> c & 1) == 1) {
                row[at] = 0;
                row[at + 1] = at == 4 ? lastValue : 0;
                at += 2;
            }
            Check.copy(x, row);
        }
    }

    private static int sumOfBreach(CommaCopies x) {
        int sum = 0;
        for (int p = 0; p < 6; p++) {
            sum += x.breach(2, p);
        }
        return sum;
    }

    /** Whichever three of eight make 0 everywhere without copy 0, it is the first PRINT for which nobody is named. */
    private static void namedByEachThree() {
        for (int set = 0; set < 256; set += 2) {
            if (Integer.bitCount(set) == 3) {
                CommaCopies x = Check.with("[a/b/c/d]".repeat(6));
                x.set(0, 3);
                three(x, set, 0);
                check.due("21 three make the first PRINT, " + set, sumOfBreach(x), 0);
                three(x, set, 1);
                check.due("21 three do not any more, " + set, sumOfBreach(x) > 0 ? 1 : 0, 1);
                three(x, set, 0);
                x.set(0, 2);
                check.due("21 three are more than N, " + set, sumOfBreach(x) == 0 ? 1 : 0, 0);
            }
        }
    }

    private static void moreOfWhatWent() {
        CommaCopies x = Check.with("[a/b/c]", Check.row(0), Check.row(1));
        check.due("23 behind two", x.more(0, 0), 2);
        x.burn(1);
        check.due("23 the ROW of the one that went", x.more(0, 0), 1);
        check.due("23 the ROW of the one that went, APART", x.more(1, 0), 1);
        x.burn(0);
        check.due("23 none is left", x.more(0, 0), 0);
    }

    /** Copy 7 has 0 everywhere; without it four would be needed for this, which are more than N. */
    private static void namedThoughFourWouldDo() {
        for (int set = 0; set < 128; set++) {
            if (Integer.bitCount(set) == 4) {
                CommaCopies x = Check.with("[a/b/c/d]".repeat(6));
                x.set(0, 3);
                int at = 0;
                for (int c = 0; c < 7; c++) {
                    int[] row = {1 + c % 3, 1 + c / 3, 1, 2, 3, 1 + c % 2};
                    if ((set >> c & 1) == 1) {
                        int end = at == 0 ? 3 : at + 1;
                        for (; at < end; at++) {
                            row[at] = 0;
                        }
                    }
                    Check.copy(x, row);
                }
                Check.copy(x, 0, 0, 0, 0, 0, 0);
                check.due("21 copy 7 is named for the first PRINT, " + set, sumOfBreach(x) == 0 ? 1 : 0, 0);
            }
        }
    }

    /**
     * One of 2, 3 and one of 4, 5 and one of 6, 7 make 0 everywhere, and no other set: these are the last ones in order,
     * and nobody is in all of them. If 7 and 5 have other CHOICES, 4 and 6 are in all.
     */
    private static void namedByTheLastSetsAlone() {
        for (int pairs = 0; pairs < 8; pairs++) {
            CommaCopies x = Check.with("[a/b/c/d]".repeat(6));
            x.set(0, 3);
            for (int c = 0; c < 8; c++) {
                int[] row = {1 + c % 3, 1 + c / 3, 1, 2, 3, 1 + c % 2};
                int pair = c / 2 - 1;
                if (pair >= 0 && (c % 2 == 0 || (pairs >> pair & 1) == 1)) {
                    row[2 * pair] = 0;
                    row[2 * pair + 1] = 0;
                }
                Check.copy(x, row);
            }
            check.due("21 by the last sets alone, " + pairs, sumOfBreach(x) == 0 ? 1 : 0, pairs == 7 ? 1 : 0);
        }
    }

    /** Nothing of a LETTER with more PLACES and CHOICES is left. */
    private static void fewerPlacesThanAhead() {
        CommaCopies x = Scene.BRIM.make("");
        x.set(1, 1);
        for (int law = 0; law < 3; law++) {
            x.holds(law);
        }
        x.hidden(255, -1);
        Check.letter(x, "[a/b][a/b]");
        Check.copies(x, Check.row(0, 0), Check.row(1, 1));
        check.due("29 any CHOICE of two", x.hidden(3, -1), 1);
        check.due("29 the first of two", x.hidden(3, 0) * 10 + x.hidden(3, 1), 1);
        check.due("21 FRAMED holds", x.breach(0, 0), -4);
        check.due("22 one PLACE does", x.fewest(1), 1);
        check.due("23 all other ROWS meet those who are there", x.more(1, 0), -4);
        x.set(0, 1);
        check.due("23 APART", x.more(1, 0) * 10 + x.more(1, 1), 1);
    }

    /** Nothing of sets with a COPY that went is left: of three pairs, which make 1 everywhere, nobody is in all. */
    private static void fewerCopiesThanAhead() {
        CommaCopies x = Check.with("[a/b][a/b][a/b]", Check.row(0, 1, 1), Check.row(1, 0, 1), Check.row(1, 1, 0),
            Check.row(0, 0, 0));
        check.due("20 NAMED of four", x.holds(2), 0);
        x.burn(3);
        check.due("20 NAMED of three", x.holds(2), 0);
        check.due("21 1 everywhere", x.breach(2, 0) * 100 + x.breach(2, 1) * 10 + x.breach(2, 2), 111);
        x.burn(2);
        check.due("20 NAMED of two", x.holds(2), 1);
        check.due("20 FRAMED of two", x.holds(0), 1);
        check.due("20 APART of two", x.holds(1), 1);
    }
}
