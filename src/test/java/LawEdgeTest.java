/** Boundary sentences of promises 20 to 23 and of the terms of part 3, each in a method of its own. */
public final class LawEdgeTest {
    private static final Edge edge = new Edge();
    private static final Check check = edge.check;
    private static final int MIN = Edge.MIN;
    private static final int MAX = Edge.MAX;

    public static void main(String[] args) {
        holdsBounds();
        holdsForOneCopy();
        holdsByN();
        printsWithoutLost();
        breachBounds();
        breachNone();
        breachFramedLeast();
        breachApartFirstOther();
        breachNamedValues();
        fewestBounds();
        fewestNoPlace();
        fewestAllSix();
        fewestOfLikeOnes();
        fewestNotByAll();
        moreBounds();
        moreUpToEight();
        moreNoRowLeft();
        moreOrder();
        moreBrokenAlready();
        edge.end();
    }

    private static void holdsBounds() {
        Scene s = Scene.PLAIN;
        edge.leaves("20 FRAMED", s, 1, x -> x.holds(0));
        edge.leaves("20 APART", s, 1, x -> x.holds(1));
        edge.leaves("20 NAMED", s, 0, x -> x.holds(2));
        for (Scene any : Scene.values()) {
            edge.leavesEach("20 no such LAW", any, -1, (x, v) -> x.holds(v), -1, 3, MIN, MAX);
        }
    }

    private static void holdsForOneCopy() {
        for (int n = 1; n <= 3; n++) {
            CommaCopies x = Check.with("[a/b]", Check.row(1));
            x.set(0, n);
            for (int law = 0; law < 3; law++) {
                check.due("20 one COPY, LAW " + law, x.holds(law), 1);
                check.due("22 one COPY, LAW " + law, x.fewest(law), 0);
            }
        }
    }

    /** Sets of 1 to N: three make the ROW of the fourth, two do not. */
    private static void holdsByN() {
        CommaCopies x = Check.with("[a/b][a/b][a/b]", Check.row(1, 0, 0), Check.row(0, 1, 0), Check.row(0, 0, 1),
            Check.row(1, 1, 1));
        int[] framed = {1, 1, 0};
        for (int n = 1; n <= 3; n++) {
            x.set(0, n);
            check.due("20 FRAMED, N = " + n, x.holds(0), framed[n - 1]);
        }
        check.due("21 by three", x.breach(0, 0), 7);
        check.due("21 the fourth", x.breach(0, 1), 3);
    }

    /** THE PRINT that is told has nothing to do with the LAWS. */
    private static void printsWithoutLost() {
        CommaCopies x = Check.with("[a/b]", Check.row(0), Check.row(1));
        for (int v : new int[] {5, 0, 1, 4}) {
            x.print(0, v);
            for (int law = 0; law < 3; law++) {
                check.due("20 THE PRINT is " + v + ", LAW " + law, x.holds(law), 1);
            }
        }
    }

    private static void breachBounds() {
        for (Scene s : new Scene[] {Scene.NEW, Scene.PLAIN, Scene.BRIM}) {
            for (int what : new int[] {0, 1}) {
                edge.leavesEach("21 no such LAW", s, -1, (x, v) -> x.breach(v, what), -1, 3, MIN, MAX);
            }
            edge.leavesEach("21 FRAMED: a set, a COPY", s, -1, (x, v) -> x.breach(0, v), -1, 2, 5, MIN, MAX);
            edge.leavesEach("21 APART: two sets", s, -1, (x, v) -> x.breach(1, v), -1, 2, 5, MIN, MAX);
            edge.leavesEach("21 NAMED: a PLACE", s, -1, (x, v) -> x.breach(2, v), -1, 6, MIN, MAX);
        }
        edge.leaves("21 NAMED: the fourth PLACE of three", Scene.PLAIN, -1, x -> x.breach(2, 3));
        int[] row = {0, 1, 4};
        for (int p = 0; p < 3; p++) {
            int place = p;
            edge.leaves("21 NAMED at " + p, Scene.PLAIN, row[p], x -> x.breach(2, place));
        }
    }

    /** NONE: it holds; BAD ahead of this. */
    private static void breachNone() {
        Scene s = Scene.PLAIN;
        edge.leavesEach("21 FRAMED holds", s, -4, (x, v) -> x.breach(0, v), 0, 1);
        edge.leavesEach("21 APART holds", s, -4, (x, v) -> x.breach(1, v), 0, 1);
        CommaCopies x = s.make();
        x.set(0, 1);
        for (int p = 0; p < 3; p++) {
            check.due("21 NAMED holds", x.breach(2, p), -4);
        }
        check.due("21 BAD ahead of NONE", x.breach(2, 3), -1);
    }

    /** The first set, and the least COPY that it frames. */
    private static void breachFramedLeast() {
        CommaCopies x = Check.with("[a/b][c/d]", Check.row(1, 1), Check.row(0, 1), Check.row(0, 1), Check.row(0, 1));
        check.due("21 the first set", x.breach(0, 0), 2);
        check.due("21 the least COPY", x.breach(0, 1), 2);
        CommaCopies y = Check.with("[a/b][c/d]", Check.row(0, 0), Check.row(0, 1), Check.row(1, 0), Check.row(1, 1));
        check.due("21 two, as one frames none", y.breach(0, 0), 6);
        check.due("21 COPY 0", y.breach(0, 1), 0);
    }

    private static void breachApartFirstOther() {
        CommaCopies x = Check.with("[a/b/c]", Check.row(2), Check.row(1), Check.row(0), Check.row(1), Check.row(0));
        check.due("21 the first of two pairs", x.breach(1, 0), 2);
        check.due("21 the first other one", x.breach(1, 1), 8);
        x.burn(3);
        check.due("21 the pair that is left", x.breach(1, 0), 4);
        check.due("21 its other one", x.breach(1, 1), 8);
    }

    private static void breachNamedValues() {
        CommaCopies x = Check.with("[a/b/c/d][a/b/c/d]", Check.row(0, 3), Check.row(1, 3), Check.row(2, 3));
        x.set(1, 2);
        check.due("21 LEFT OUT", x.breach(2, 0), 4);
        check.due("21 what all have", x.breach(2, 1), 3);
        x.set(1, 1);
        check.due("21 any", x.breach(2, 0), 0);
        x.set(1, 0);
        check.due("21 NONE by MIX", x.breach(2, 0), -4);
        x.mended(0, 3);
        check.due("21 what the paper MENDS to", x.breach(2, 0), 3);
    }

    private static void fewestBounds() {
        for (Scene s : Scene.values()) {
            edge.leavesEach("22 no such LAW", s, -1, (x, v) -> x.fewest(v), -1, 3, MIN, MAX);
        }
        edge.leaves("22 FRAMED", Scene.PLAIN, 4, x -> x.fewest(0));
        edge.leaves("22 APART", Scene.PLAIN, 4, x -> x.fewest(1));
        edge.leaves("22 NAMED: not by all", Scene.PLAIN, -4, x -> x.fewest(2));
    }

    private static void fewestNoPlace() {
        CommaCopies x = Check.with("[a/b]");
        for (int law = 0; law < 3; law++) {
            check.due("22 no COPY", x.fewest(law), 0);
        }
        Check.copies(x, Check.row(0), Check.row(1));
        for (int law = 0; law < 3; law++) {
            check.due("22 two COPIES", x.fewest(law), 1);
        }
    }

    /** Copy 0 has 0 everywhere, each other one 1 at one place alone: no place can be spared. */
    private static CommaCopies seven() {
        CommaCopies x = Check.with("[a/b]".repeat(6));
        for (int c = 0; c < 7; c++) {
            int[] row = new int[6];
            if (c > 0) {
                row[c - 1] = 1;
            }
            Check.copy(x, row);
        }
        x.set(0, 1);
        return x;
    }

    private static void fewestAllSix() {
        CommaCopies x = seven();
        for (int law = 0; law < 3; law++) {
            check.due("22 all six, LAW " + law, x.fewest(law), 63);
        }
        x.burn(1);
        for (int law = 0; law < 3; law++) {
            check.due("22 five do, LAW " + law, x.fewest(law), 62);
        }
    }

    /** Fewer PLACES ahead of a lesser set, of like ones the least set. */
    private static void fewestOfLikeOnes() {
        CommaCopies x = Check.with("[a/b][a/b][a/b/c]", Check.row(0, 0, 0), Check.row(0, 1, 1), Check.row(1, 0, 2));
        for (int law = 0; law < 3; law++) {
            check.due("22 one PLACE ahead of two", x.fewest(law), 4);
        }
        CommaCopies y = Check.with("[a/b][a/b][a/b]", Check.row(0, 1, 1), Check.row(0, 0, 0));
        for (int law = 0; law < 3; law++) {
            check.due("22 the least of two", y.fewest(law), 2);
        }
    }

    private static void fewestNotByAll() {
        CommaCopies x = seven();
        Check.copy(x, 0, 0, 0, 0, 0, 0);
        for (int law = 0; law < 3; law++) {
            check.due("22 like COPIES", x.fewest(law), -4);
        }
    }

    private static void moreBounds() {
        for (Scene s : Scene.values()) {
            edge.leavesEach("23 no such LAW", s, -1, (x, v) -> x.more(v, 0), -1, 2, 3, MIN, MAX);
            edge.leavesEach("23 no such PLACE", s, -1, (x, v) -> x.more(0, v), -1, 6, MIN, MAX);
        }
        edge.leaves("23 the fourth of three PLACES", Scene.PLAIN, -1, x -> x.more(1, 3));
        int[] row = {0, 0, 2};
        for (int p = 0; p < 3; p++) {
            int place = p;
            edge.leaves("23 FRAMED at " + p, Scene.PLAIN, row[p], x -> x.more(0, place));
            edge.leaves("23 APART at " + p, Scene.PLAIN, -4, x -> x.more(1, place));
        }
    }

    private static void moreUpToEight() {
        CommaCopies x = seven();
        int[] row = {0, 0, 0, 0, 1, 1};
        for (int p = 0; p < 6; p++) {
            check.due("23 the eighth by FRAMED", x.more(0, p), row[p]);
            check.due("23 the eighth by APART", x.more(1, p), row[p]);
        }
        Check.copy(x, row);
        check.due("23 FRAMED still holds", x.holds(0), 1);
        check.due("23 FULL", x.more(0, 0), -3);
        check.due("23 FULL, APART", x.more(1, 5), -3);
        check.due("23 BAD ahead of FULL", x.more(0, 6), -1);
        x.burn(0);
        check.due("23 room for the one that went", x.more(0, 4), 0);
    }

    private static void moreNoRowLeft() {
        CommaCopies x = Check.with("[a/b]", Check.row(0));
        x.set(0, 1);
        check.due("23 the last ROW", x.more(0, 0), 1);
        Check.copy(x, 1);
        check.due("23 no ROW is left", x.more(0, 0), -4);
        check.due("23 no ROW is left, APART", x.more(1, 0), -4);
        CommaCopies y = Check.with("[a/b][a/b]", Check.row(0, 0), Check.row(1, 1));
        check.due("23 ROWS are left, but FRAMED", y.more(0, 0), -4);
        check.due("23 ROWS are left, but not APART", y.more(1, 0), -4);
    }

    /** 0 first, PLACE 0 counts most. */
    private static void moreOrder() {
        CommaCopies x = Check.with("[a/b][c/d/e]");
        x.set(0, 1);
        int[][] rows = {{0, 0}, {0, 1}, {0, 2}, {1, 0}, {1, 1}, {1, 2}};
        for (int[] row : rows) {
            check.due("23 the next at 0", x.more(0, 0), row[0]);
            check.due("23 the next at 1", x.more(1, 1), row[1]);
            Check.copy(x, row);
        }
        check.due("23 all ROWS", x.more(0, 1), -4);
    }

    private static void moreBrokenAlready() {
        CommaCopies x = Check.with("[a/b/c][d/e/f]", Check.row(0, 1), Check.row(0, 1));
        check.due("23 FRAMED is broken", x.more(0, 0), -4);
        check.due("23 APART is broken", x.more(1, 0), -4);
        x.burn(0);
        check.due("23 no more", x.more(0, 0), 0);
    }
}
