/** Promises 20 to 23: laws. */
public final class LawTest {
    private static final Check check = new Check();

    public static void main(String[] args) {
        framed();
        framedByMending();
        apart();
        apartByLeaving();
        named();
        namedByLeaving();
        refusals();
        fewest();
        more();
        moreByJoining();
        crowd();
        moreRefusals();
        check.end();
    }

    private static void framed() {
        CommaCopies x = Check.with("[a/b]-[c/d]", Check.row(0, 1), Check.row(1, 1), Check.row(1, 0), Check.row(0, 0));
        check.due("20 framed", x.holds(0), 0);
        check.due("21 set", x.breach(0, 0), 5);
        check.due("21 copy", x.breach(0, 1), 1);
        x.set(0, 1);
        check.due("20 alone", x.holds(0), 1);
        check.due("21 none", x.breach(0, 0), -4);
        check.due("21 none, too", x.breach(0, 1), -4);
        Check.copy(x, 1, 0);
        check.due("20 twin", x.holds(0), 0);
        check.due("21 twin's set", x.breach(0, 0), 4);
        check.due("21 twin", x.breach(0, 1), 4);
    }

    private static void framedByMending() {
        CommaCopies x = Check.with("[a/b]-[c/d]", Check.row(0, 1), Check.row(1, 1));
        check.due("20 unlike", x.holds(0), 1);
        x.mended(0, 1);
        check.due("20 mended", x.holds(0), 0);
        check.due("21 mended set", x.breach(0, 0), 1);
        check.due("21 mended copy", x.breach(0, 1), 1);
        check.due("20 a print in common", x.holds(1), 0);
    }

    private static void apart() {
        CommaCopies x = Check.with("[a/b/c]-[d/e/f]", Check.row(0, 0), Check.row(1, 1), Check.row(0, 1), Check.row(1, 0));
        x.set(0, 1);
        check.due("20 apart alone", x.holds(1), 1);
        x.set(0, 2);
        check.due("20 not apart", x.holds(1), 0);
        check.due("21 first", x.breach(1, 0), 1);
        check.due("21 other", x.breach(1, 1), 12);
        x.burn(3);
        check.due("20 three of them", x.holds(1), 0);
        check.due("21 first of three", x.breach(1, 0), 4);
        check.due("21 other of three", x.breach(1, 1), 3);
        x.burn(2);
        check.due("20 two of them", x.holds(1), 1);
        check.due("21 none", x.breach(1, 0), -4);
    }

    private static void apartByLeaving() {
        CommaCopies x = Check.with("[a/b/c/d]", Check.row(0), Check.row(1), Check.row(2), Check.row(3));
        check.due("20 mix", x.holds(1), 1);
        x.set(1, 1);
        check.due("20 any", x.holds(1), 0);
        check.due("21 any first", x.breach(1, 0), 1);
        check.due("21 any other", x.breach(1, 1), 6);
        x.set(1, 2);
        check.due("20 leave", x.holds(1), 0);
        check.due("21 leave first", x.breach(1, 0), 3);
        check.due("21 leave other", x.breach(1, 1), 12);
    }

    private static void named() {
        // Of three that have a choice in common by twos, no two sets are apart, yet nobody is in all.
        CommaCopies x = Check.with("[a/b]-[c/d]-[e/f]", Check.row(0, 1, 1), Check.row(1, 0, 1), Check.row(1, 1, 0));
        check.due("20 apart", x.holds(1), 1);
        check.due("20 not named", x.holds(2), 0);
        check.due("21 place 0", x.breach(2, 0), 1);
        check.due("21 place 1", x.breach(2, 1), 1);
        check.due("21 place 2", x.breach(2, 2), 1);
        x.set(0, 1);
        check.due("20 named alone", x.holds(2), 1);
        check.due("21 none", x.breach(2, 0), -4);
    }

    private static void namedByLeaving() {
        CommaCopies x = Check.with("[a/b/c]", Check.row(0), Check.row(1), Check.row(2));
        check.due("20 mix", x.holds(2), 1);
        x.set(1, 2);
        check.due("20 leave", x.holds(2), 0);
        check.due("21 left out", x.breach(2, 0), 4);
        x.set(1, 1);
        check.due("21 any", x.breach(2, 0), 0);
    }

    /** All 92 sets of eight copies, N = 3. */
    private static void crowd() {
        CommaCopies x = Check.with("[a/b]-[a/b]-[a/b]-[a/b]-[a/b]-[a/b]");
        for (int c = 0; c < 8; c++) {
            int[] row = new int[6];
            for (int p = 0; p < 6; p++) {
                row[p] = p < 5 && p == c ? 1 : 0;
            }
            Check.copy(x, row);
        }
        x.set(0, 3);
        check.due("13 all sets", x.count(4), 92);
        check.due("17 the last of one", x.maker(7), 128);
        check.due("17 the first of two", x.maker(8), 3);
        check.due("17 the first of three", x.maker(36), 7);
        check.due("17 the last of all", x.maker(91), 224);
        check.due("17 no more", x.maker(92), -4);
        // Copies 5, 6, 7 are alike.
        check.due("21 set", x.breach(0, 0), 32);
        check.due("21 copy", x.breach(0, 1), 6);
        check.due("21 apart, first", x.breach(1, 0), 1 << 5);
        check.due("21 apart, other", x.breach(1, 1), 1 << 6);
        Check.print(x, 1, 1, 1, 0, 0, 0);
        check.due("18 three are sure", x.blamed(0), 7);
        check.due("13 one set alone", x.count(4), 1);
    }

    private static void refusals() {
        CommaCopies x = Check.with("[a/b]-[c/d]", Check.row(0, 1), Check.row(0, 1));
        check.due("20 below", x.holds(-1), -1);
        check.due("20 above", x.holds(3), -1);
        check.due("21 law below", x.breach(-1, 0), -1);
        check.due("21 law above", x.breach(3, 0), -1);
        check.due("21 what of 0", x.breach(0, 2), -1);
        check.due("21 what of 1", x.breach(1, 2), -1);
        check.due("21 what of 2", x.breach(2, 2), -1);
        check.due("21 what below", x.breach(2, -1), -1);
        check.due("21 what below of 0", x.breach(0, -1), -1);
        check.due("22 below", x.fewest(-1), -1);
        check.due("22 above", x.fewest(3), -1);
        CommaCopies y = new CommaCopies();
        check.due("20 no letter", y.holds(2), 1);
        check.due("21 no letter", y.breach(1, 1), -4);
        check.due("22 no letter", y.fewest(1), 0);
    }

    private static void fewest() {
        CommaCopies x = Check.with("[a/b]-[c/d]-[e/f]", Check.row(0, 0, 1));
        check.due("22 one copy", x.fewest(0), 0);
        Check.copy(x, 0, 1, 0);
        check.due("22 one place does", x.fewest(0), 2);
        check.due("22 the same apart", x.fewest(1), 2);
        check.due("22 the same named", x.fewest(2), 2);
        Check.copy(x, 1, 1, 1);
        x.set(0, 1);
        check.due("22 two places do", x.fewest(0), 3);
        x.set(0, 2);
        check.due("22 all are wanted", x.fewest(0), 7);
        check.due("22 none for named", x.fewest(2), -4);
        check.due("20 not all", x.holds(2), 0);
        Check.copy(x, 0, 0, 1);
        check.due("22 none with a twin", x.fewest(0), -4);
    }

    private static void more() {
        CommaCopies x = Check.with("[a/b]-[c/d/e]");
        check.due("23 the first of all", x.more(0, 0) * 10 + x.more(0, 1), 0);
        Check.copy(x, 0, 0);
        check.due("23 no copy's", x.more(0, 0) * 10 + x.more(0, 1), 1);
        Check.copy(x, 0, 1);
        check.due("23 the next", x.more(0, 0) * 10 + x.more(0, 1), 2);
        Check.copy(x, 1, 2);
        check.due("23 not one that is framed", x.more(0, 0) * 10 + x.more(0, 1), -4 * 10 - 4);
        x.set(0, 1);
        check.due("23 alone", x.more(0, 0) * 10 + x.more(0, 1), 2);
        x.mended(1, 2);
        check.due("23 mended", x.more(0, 0), -4);
        CommaCopies y = Check.with("[a/b]-[c/d/e]", Check.row(0, 0), Check.row(1, 1));
        check.due("23 framed by those who join", y.more(0, 0) * 10 + y.more(0, 1), 2);
        check.due("23 apart", y.more(1, 0) * 10 + y.more(1, 1), 2);
    }

    /** What is added must not join with one that is there to frame another, or to meet others. */
    private static void moreByJoining() {
        CommaCopies x = Check.with("[a/b]-[c/d]-[e/f]", Check.row(1, 1, 0), Check.row(1, 0, 1));
        check.due("23 two of them", number(x, 0), 0);
        CommaCopies y = Check.with("[a/b]-[c/d]-[e/f]", Check.row(0, 0, 1), Check.row(0, 1, 0));
        // 000 is framed by both; 011, too; 100 and 111 are not, and frame nobody with one of them.
        check.due("23 not what two frame", number(y, 0), 100);
        y.set(0, 1);
        check.due("23 alone", number(y, 0), 0);
        CommaCopies z = Check.with("[a/b/c]-[d/e/f]", Check.row(0, 1), Check.row(1, 0), Check.row(2, 2));
        check.due("23 none is apart", number(z, 1), -4 * 10 - 4);
        z.burn(2);
        check.due("23 apart of two", number(z, 1), 2);
        CommaCopies six = Check.with("[a/b][a/b][a/b][a/b][a/b][a/b/c/d]", Check.row(0, 0, 0, 0, 0, 0));
        check.due("23 the last place counts least", six.more(0, 4) * 10 + six.more(0, 5), 1);
        for (int k = 1; k < 4; k++) {
            Check.copy(six, 0, 0, 0, 0, 0, k);
        }
        check.due("23 each of these would frame with one that is there", six.more(0, 4), -4);
        six.set(0, 1);
        check.due("23 then the one ahead of it", six.more(0, 4) * 10 + six.more(0, 5), 10);
    }

    /** A COPY more by a law, three places or two as one number. */
    private static int number(CommaCopies x, int law) {
        int n = 0;
        for (int p = 0; p < x.count(0); p++) {
            n = n * 10 + x.more(law, p);
        }
        return n;
    }

    private static void moreRefusals() {
        CommaCopies x = Check.with("[a/b]-[c/d/e]", Check.row(0, 0), Check.row(0, 0));
        check.due("23 broken already", x.more(0, 0), -4);
        check.due("23 broken already, apart", x.more(1, 0), -4);
        check.due("23 law 2", x.more(2, 0), -1);
        check.due("23 law below", x.more(-1, 0), -1);
        check.due("23 place above", x.more(0, 2), -1);
        check.due("23 place below", x.more(0, -1), -1);
        for (int k = 2; k < 8; k++) {
            Check.copy(x, 0, 0);
        }
        check.due("23 full", x.more(0, 0), -3);
        check.due("23 BAD ahead of FULL", x.more(0, 2), -1);
        check.due("23 no letter", new CommaCopies().more(0, 0), -1);
    }
}
