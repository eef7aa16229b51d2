/** Promises 14 to 19: prints. */
public final class PrintTest {
    private static final Check check = new Check();

    public static void main(String[] args) {
        print();
        printed();
        printedWhole();
        printedRefusals();
        couldMix();
        couldAny();
        couldLeave();
        couldMended();
        couldRefusals();
        maker();
        blamed();
        unjust();
        check.end();
    }

    private static void print() {
        CommaCopies x = Check.with("[a/b]-[c/d/e]");
        check.due("14 lost at first", x.print(1, 2), 5);
        check.due("14 was", x.print(1, 4), 2);
        check.due("14 left out", x.print(1, 5), 4);
        check.due("14 lost", x.print(1, 0), 5);
        check.due("14 no such choice", x.print(0, 2), -1);
        check.due("14 v above", x.print(0, 6), -1);
        check.due("14 v below", x.print(0, -1), -1);
        check.due("14 place above", x.print(2, 4), -1);
        check.due("14 place below", x.print(-1, 5), -1);
        check.due("14 stayed", x.print(0, 0), 5);
    }

    private static void printed() {
        CommaCopies x = Check.with("Go[ now/, now]!");
        check.due("15 second", Check.printed(x, "Go, now!"), 1);
        check.due("15 value", x.print(0, 5), 1);
        check.due("15 left out", Check.printed(x, "Go!"), 1);
        check.due("15 value 4", x.print(0, 5), 4);
        check.due("15 tape is empty", x.type('a', 1), 1);
        CommaCopies y = Check.with("[a/aa][a/aa/][a/]");
        check.due("15 the first row", Check.printed(y, "aaa"), 1);
        check.due("15 place 0 counts most", y.print(0, 5) * 100 + y.print(1, 5) * 10 + y.print(2, 5), 0);
        check.due("15 longer first place", Check.printed(y, "aaaaa"), 1);
        check.due("15 all long", y.print(0, 5) * 100 + y.print(1, 5) * 10 + y.print(2, 5), 110);
        check.due("15 a choice of no byte ahead of LEFT OUT", Check.printed(y, "a"), 1);
        check.due("15 values", y.print(0, 5) * 100 + y.print(1, 5) * 10 + y.print(2, 5), 21);
        check.due("15 no byte at all", Check.printed(y, ""), 1);
        check.due("15 values of nothing", y.print(0, 5) * 100 + y.print(1, 5) * 10 + y.print(2, 5), 421);
    }

    private static void printedWhole() {
        CommaCopies x = Check.with("a[b/bb]c[/d]e[f/g][h/i][j/k]l[m/n]o");
        check.due("15 six places", Check.printed(x, "abbcdegikmo"), -4);
        check.due("15 six places, as it reads", Check.printed(x, "abbcdegikl" + "no"), 1);
        int[] want = {1, 1, 1, 1, 1, 1};
        for (int p = 0; p < want.length; p++) {
            check.due("15 six places, " + p, x.print(p, 5), want[p]);
        }
        check.due("15 six places, all left out", Check.printed(x, "acelo"), 1);
        int[] out = {4, 0, 4, 4, 4, 4};
        for (int p = 0; p < out.length; p++) {
            check.due("15 six places, left out " + p, x.print(p, 5), out[p]);
        }
    }

    private static void printedRefusals() {
        CommaCopies x = new CommaCopies();
        check.due("15 no letter", Check.printed(x, "ab"), -2);
        check.due("15 tape is empty by NOT", x.type('a', 1), 1);
        x.letter();
        check.due("15 other text", Check.printed(x, "b"), -4);
        check.due("15 longer", Check.printed(x, "aa"), -4);
        check.due("15 shorter", x.printed(), -4);
        CommaCopies y = Check.with("x[a/b]y");
        y.print(0, 1);
        check.due("15 none", Check.printed(y, "xcy"), -4);
        check.due("15 tape is empty by NONE", y.type('x', 1), 1);
        check.due("15 the print stays", y.print(0, 1), 1);
        check.due("15 too short", y.printed(), -4);
    }

    private static CommaCopies three() {
        return Check.with("[a/b/c]-[d/e/f]", Check.row(0, 0), Check.row(0, 1), Check.row(1, 1));
    }

    private static void couldMix() {
        CommaCopies x = three();
        Check.print(x, 0, 1);
        check.due("16 mix: has it", x.could(2), 1);
        check.due("16 mix: has not", x.could(1), 0);
        check.due("16 mix: together", x.could(5), 1);
        check.due("16 more than N", x.could(7), 1);
        x.print(1, 2);
        check.due("16 mix: nobody has it", x.could(7), 0);
        x.print(1, 4);
        check.due("16 mix: left out", x.could(5), 0);
        x.print(1, 5);
        check.due("16 lost", x.could(1), 1);
    }

    private static void couldAny() {
        CommaCopies x = three();
        x.set(1, 1);
        Check.print(x, 0, 2);
        check.due("16 any: unlike", x.could(3), 1);
        check.due("16 any: alike", x.could(6), 0);
        check.due("16 any: alone", x.could(1), 0);
        x.print(0, 2);
        check.due("16 any: alike at place 0", x.could(3), 0);
        check.due("16 any: unlike at both", x.could(5), 1);
        x.print(1, 4);
        check.due("16 any: not left out", x.could(5), 0);
    }

    private static void couldLeave() {
        CommaCopies x = three();
        x.set(1, 2);
        Check.print(x, 0, 4);
        check.due("16 leave: unlike", x.could(3), 1);
        check.due("16 leave: alike", x.could(6), 0);
        x.print(1, 2);
        check.due("16 leave: not any", x.could(3), 0);
        x.print(1, 1);
        check.due("16 leave: what they have, too", x.could(3), 1);
    }

    private static void couldMended() {
        CommaCopies x = three();
        Check.print(x, 0, 2);
        x.mended(1, 2);
        check.due("16 mended", x.could(1), 1);
        x.print(1, 1);
        check.due("16 mended, own ones stay", x.could(2), 1);
        check.due("16 mended to another", x.could(1), 0);
        x.mended(1, 0);
        x.print(1, 0);
        check.due("16 mended to choice 0", x.could(2), 1);
        x.mended(1, -1);
        check.due("16 mended no more", x.could(2), 0);
        x.mended(1, 2);
        x.set(1, 2);
        x.print(1, 4);
        check.due("16 mended makes none unlike", x.could(1), 0);
        x.set(1, 1);
        x.print(1, 0);
        check.due("16 mended makes not any", x.could(2), 0);
    }

    private static void couldRefusals() {
        CommaCopies x = three();
        check.due("16 no copy", x.could(0), -1);
        check.due("16 no such copy", x.could(8), -1);
        check.due("16 none of nine", x.could(257), -1);
        check.due("16 below", x.could(-1), -1);
        check.due("16 lowest", x.could(Integer.MIN_VALUE + 1), -1);
    }

    private static void maker() {
        CommaCopies x = three();
        int[] all = {1, 2, 4, 3, 5, 6, -4};
        for (int k = 0; k < all.length; k++) {
            check.due("17 lost everywhere " + k, x.maker(k), all[k]);
        }
        x.set(0, 3);
        check.due("17 three last", x.maker(6), 7);
        x.set(0, 1);
        check.due("17 one alone", x.maker(3), -4);
        x.set(0, 2);
        Check.print(x, 0, 1);
        check.due("17 first", x.maker(0), 2);
        check.due("17 second", x.maker(1), 3);
        check.due("17 third", x.maker(2), 5);
        check.due("17 fourth", x.maker(3), 6);
        check.due("17 no more", x.maker(4), -4);
        check.due("17 below", x.maker(-1), -1);
        check.due("17 far", x.maker(Integer.MAX_VALUE), -4);
        check.due("13 as many", x.count(4), 4);
    }

    private static void blamed() {
        CommaCopies x = three();
        Check.print(x, 1, 0);
        check.due("18 sure", x.blamed(0), 5);
        check.due("18 may be", x.blamed(1), 5);
        x.set(0, 3);
        check.due("18 sure of three", x.blamed(0), 5);
        check.due("18 may be of three", x.blamed(1), 7);
        x.print(0, 2);
        check.due("18 nobody sure", x.blamed(0), 0);
        check.due("18 nobody may be", x.blamed(1), 0);
        check.due("18 above", x.blamed(2), -1);
        check.due("18 below", x.blamed(-1), -1);
    }

    private static void unjust() {
        CommaCopies x = three();
        Check.print(x, 1, 0);
        check.due("19 both are", x.unjust(5), -4);
        check.due("19 one is not", x.unjust(7), 1);
        check.due("19 one alone", x.unjust(2), 1);
        check.due("19 no copy", x.unjust(0), -1);
        check.due("19 no such copy", x.unjust(8), -1);
        check.due("19 below", x.unjust(-1), -1);
        x.print(0, 2);
        check.due("19 no set could", x.unjust(1), -2);
        check.due("19 BAD ahead", x.unjust(9), -1);
        x.print(0, 5);
        x.print(1, 5);
        check.due("19 the least", x.unjust(6), 1);
    }
}
