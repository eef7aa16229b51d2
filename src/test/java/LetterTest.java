/** Promises 1 to 13: the letter, copies. */
public final class LetterTest {
    private static final Check check = new Check();

    public static void main(String[] args) {
        newObject();
        type();
        letter();
        letterFaults();
        letterForgets();
        choices();
        cost();
        mended();
        copyOf();
        copyOfRefusals();
        copyOfNoPlaces();
        choiceAndBurn();
        reads();
        set();
        count();
        check.end();
    }

    private static void newObject() {
        CommaCopies x = new CommaCopies();
        check.due("1 places", x.count(0), 0);
        check.due("1 copies", x.count(1), 0);
        check.due("1 pasts", x.count(2), 0);
        check.due("1 bytes", x.count(3), 0);
        check.due("1 makers", x.count(4), 0);
        check.due("1 lost", x.count(5), 0);
        check.due("1 choices", x.choices(0), -1);
        check.due("1 putAll", x.putAll(), -2);
        check.due("1 restore", x.restore(), -4);
        check.due("1 drop", x.drop(0), -11);
        check.due("1 N", x.set(0, 2), 2);
        check.due("1 HOW", x.set(1, 0), 0);
        check.due("1 tape", x.type('a', 1), 1);
        check.due("1 blamed", x.blamed(0), 0);
        check.due("1 maker", x.maker(0), -4);
        check.due("1 could", x.could(1), -1);
    }

    private static void type() {
        CommaCopies x = new CommaCopies();
        check.due("2 one", x.type('a', 1), 1);
        check.due("2 higher bytes do not count", x.type(0x0102030405060000L | 'b' << 8 | 'c', 2), 3);
        check.due("2 n = 0", x.type('a', 0), -1);
        check.due("2 n = 9", x.type('a', 9), -1);
        check.due("2 n below", x.type('a', -1), -1);
        check.due("2 byte 31", x.type(31, 1), -1);
        check.due("2 byte 127", x.type(127, 1), -1);
        check.due("2 byte 200", x.type(200, 1), -1);
        check.due("2 the second byte", x.type('a', 2), -1);
        check.due("2 bytes 32, 126", x.type(32 << 8 | 126, 2), 5);
        check.due("2 eight, the highest set", x.type(0x8061616161616161L, 8), -1);
        check.due("2 letter", x.letter(), 0);
        Check.copy(x);
        check.due("2 order of bytes", Check.readsAll(x, 0).equals("abc ~") ? 1 : 0, 1);
        for (int k = 1; k <= 14; k++) {
            check.due("2 eight more", x.type(Check.word("12345678"), 8), 8 * k);
        }
        check.due("2 119", x.type(Check.word("1234567"), 7), 119);
        check.due("2 full by two", x.type(Check.word("12"), 2), -3);
        check.due("2 BAD ahead of FULL", x.type(31, 2), -1);
        check.due("2 120", x.type('1', 1), 120);
        check.due("2 full", x.type('1', 1), -3);
        check.due("2 full letter", x.letter(), 0);
        check.due("2 full length", x.count(3), 120);
    }

    private static int letter(String text) {
        return Check.letter(new CommaCopies(), text);
    }

    private static void letter() {
        check.due("3 no place", letter("ab"), 0);
        check.due("3 one", letter("[a/b]"), 1);
        check.due("3 empty choices", letter("[///]"), 1);
        check.due("3 six", letter("[a/b][a/b][a/b][a/b][a/b][a/b]x"), 6);
        check.due("3 eight bytes of a choice", letter("[12345678/12345678]"), 1);
        check.due("3 blanks", letter("   "), 0);
        check.due("3 eight bytes behind eight bytes", letter("[a/12345678][12345678/a]"), 2);
        check.due("3 many bytes outside", letter("[a/1]1234567890[12345678/a]1234567890"), 2);
        CommaCopies x = new CommaCopies();
        Check.letter(x, "[a/b]");
        check.due("3 tape is empty", x.type('a', 1), 1);
    }

    private static void letterFaults() {
        check.due("3 nothing", letter(""), -20);
        check.due("3 seventh [", letter("[/][/][/][/][/][/]x[/]"), -39);
        check.due("3 [ within", letter("a[b[c/d]"), -23);
        check.due("3 / outside", letter("ab/"), -22);
        check.due("3 ] outside", letter("[a/b]]"), -25);
        check.due("3 ] behind one choice", letter("[a]"), -22);
        check.due("3 ] behind one empty choice", letter("[]"), -21);
        check.due("3 fourth /", letter("[a/b/c/d/]"), -28);
        check.due("3 ninth byte", letter("[123456789/a]"), -29);
        check.due("3 ninth byte of a later choice", letter("[a/123456789]"), -31);
        check.due("3 the end behind [", letter("["), -21);
        check.due("3 the end within a choice", letter("[a/b"), -24);
        check.due("3 the end behind /", letter("x[a/"), -24);
        check.due("3 the first of two", letter("]["), -20);
        check.due("3 ninth byte of a later place", letter("[a/1][123456789/a]"), -34);
        check.due("3 the very first byte", letter("/[a/b]"), -20);
        CommaCopies x = Check.with("u[a/b]", Check.row(1));
        x.cost(0, 1, 7);
        x.print(0, 1);
        x.keep();
        check.due("3 fault", Check.letter(x, "[a]"), -22);
        check.due("3 tape is empty by a fault", x.type('a', 1), 1);
        check.due("3 letter stays", x.count(3), 6);
        check.due("3 copies stay", x.costOf(0), 7);
        check.due("3 print stays", x.print(0, 1), 1);
        check.due("3 pasts stay", x.count(2), 1);
    }

    private static void letterForgets() {
        CommaCopies x = Check.with("[a/b/c]", Check.row(1));
        x.cost(0, 1, 7);
        x.mended(0, 2);
        x.print(0, 1);
        x.keep();
        x.set(0, 3);
        x.set(1, 2);
        check.due("3 again", Check.letter(x, "[a/b/c]"), 1);
        check.due("3 costs go", x.cost(0, 1, 0), 0);
        check.due("3 mended goes", x.mended(0, -1), -1);
        check.due("3 copies go", x.count(1), 0);
        check.due("3 print goes", x.print(0, 5), 5);
        check.due("3 pasts go", x.count(2), 0);
        check.due("3 N stays", x.set(0, 2), 3);
        check.due("3 HOW stays", x.set(1, 0), 2);
    }

    private static void choices() {
        CommaCopies x = Check.with("[a/b]-[/c/]-[d/e/f/g]");
        check.due("4 two", x.choices(0), 2);
        check.due("4 three", x.choices(1), 3);
        check.due("4 four", x.choices(2), 4);
        check.due("4 beyond", x.choices(3), -1);
        check.due("4 below", x.choices(-1), -1);
    }

    private static void cost() {
        CommaCopies x = Check.with("[a/b]-[c/d/e]", Check.row(1, 2), Check.row(0, 2));
        check.due("5 first", x.cost(1, 2, 9), 0);
        check.due("5 was", x.cost(1, 2, 4), 9);
        check.due("5 other place", x.cost(0, 1, 3), 0);
        check.due("5 v above", x.cost(0, 1, 10), -1);
        check.due("5 v below", x.cost(0, 1, -1), -1);
        check.due("5 choice above", x.cost(0, 2, 1), -1);
        check.due("5 choice below", x.cost(0, -1, 1), -1);
        check.due("5 place above", x.cost(2, 0, 1), -1);
        check.due("5 place below", x.cost(-1, 0, 1), -1);
        check.due("11 both places", x.costOf(0), 7);
        check.due("11 one place", x.costOf(1), 4);
        check.due("11 no such copy", x.costOf(2), -1);
        check.due("11 below", x.costOf(-1), -1);
    }

    private static void mended() {
        CommaCopies x = Check.with("[a/b]-[c/d/e]");
        check.due("6 first", x.mended(1, 2), -1);
        check.due("6 was", x.mended(1, -1), 2);
        check.due("6 not", x.mended(1, 0), -1);
        check.due("6 choice above", x.mended(0, 2), -101);
        check.due("6 LEFT OUT is none", x.mended(0, 4), -101);
        check.due("6 choice below", x.mended(0, -2), -101);
        check.due("6 place above", x.mended(2, 0), -101);
        check.due("6 place below", x.mended(-1, -1), -101);
        check.due("6 stayed", x.mended(1, -1), 0);
        check.due("6 no letter", new CommaCopies().mended(0, -1), -101);
    }

    private static void copyOf() {
        CommaCopies x = Check.with("[a/b]-[c/d/e]");
        x.sheet(1, 1, 5);
        for (int k = 0; k < 5; k++) {
            x.item(1, 1, k, k == 3 ? 1 : k == 4 ? 2 : 0);
        }
        check.due("7 from item 3", x.copyOf(1, 1, 3), 0);
        check.due("7 from item 0", x.copyOf(1, 1, 0), 1);
        check.due("7 choices", x.choice(0, 0) * 10 + x.choice(0, 1), 12);
        x.item(1, 1, 3, 0);
        check.due("7 the row is the copy's own", x.choice(0, 0), 1);
        for (int k = 2; k < 8; k++) {
            check.due("7 more", x.copyOf(1, 1, 0), k);
        }
        check.due("7 FULL", x.copyOf(1, 1, 0), -3);
        x.item(1, 1, 0, 2);
        check.due("7 NOT ahead of FULL", x.copyOf(1, 1, 0), -2);
        x.item(1, 1, 0, -1);
        check.due("7 below is no choice", x.copyOf(1, 1, 0), -2);
    }

    private static void copyOfRefusals() {
        CommaCopies x = Check.with("[a/b]-[c/d/e]");
        x.sheet(0, 0, 3);
        check.due("7 BAD sheet", x.copyOf(4, 0, 0), -1);
        check.due("7 BAD sheet below", x.copyOf(-1, 0, 0), -1);
        check.due("7 BAD lane", x.copyOf(1, 3, 0), -1);
        check.due("7 BAD lane below", x.copyOf(0, -1, 0), -1);
        check.due("7 NULL", x.copyOf(1, 0, -1), -11);
        check.due("7 CAST ahead of INDEX", x.copyOf(0, 1, -1), -12);
        check.due("7 INDEX below", x.copyOf(0, 0, -1), -13);
        check.due("7 INDEX above", x.copyOf(0, 0, 2), -13);
        check.due("7 INDEX far above", x.copyOf(0, 0, Integer.MAX_VALUE), -13);
        x.item(0, 0, 0, 3);
        check.due("7 INDEX ahead of NOT", x.copyOf(0, 0, 3), -13);
        check.due("7 NOT", x.copyOf(0, 0, 0), -2);
        check.due("7 none came", x.count(1), 0);
        CommaCopies y = new CommaCopies();
        y.sheet(0, 2, 1);
        check.due("7 no letter", y.copyOf(0, 2, 1), -2);
        check.due("7 no letter, INDEX first", y.copyOf(0, 2, 2), -13);
        check.due("7 no letter, below", y.copyOf(0, 2, -1), -13);
    }

    private static void copyOfNoPlaces() {
        CommaCopies x = Check.with("ab");
        x.sheet(0, 2, 2);
        check.due("7 no item taken", x.copyOf(0, 2, 2), 0);
        check.due("7 no item taken, above", x.copyOf(0, 2, 3), -13);
        check.due("7 no item taken, below", x.copyOf(0, 2, -1), -13);
        check.due("10 letter alone", x.reads(0, 1), 'b');
        check.due("10 letter's end", x.reads(0, 2), -4);
        check.due("8 no place", x.choice(0, 0), -1);
        check.due("20 one copy", x.holds(0), 1);
        check.due("7 its twin", x.copyOf(0, 2, 0), 1);
        check.due("20 twins: framed", x.holds(0), 0);
        check.due("20 twins: apart", x.holds(1), 0);
        check.due("20 twins: named", x.holds(2), 0);
        check.due("21 no place to tell", x.breach(2, 0), -1);
        check.due("22 no place", x.fewest(0), -4);
        check.due("29 no place", x.hidden(3, -1), 0);
        check.due("25 one row", x.wrong(0, 0), 1);
        check.due("25 no row", x.wrong(1, 0), 0);
        check.due("26 one row", x.bar(2), 1);
        check.due("15 the letter itself", Check.printed(x, "ab"), 1);
        check.due("13 makers", x.count(4), 3);
    }

    private static void choiceAndBurn() {
        CommaCopies x = Check.with("[a/b]-[c/d/e]", Check.row(0, 1), Check.row(1, 2), Check.row(1, 0));
        check.due("8 copy 1", x.choice(1, 1), 2);
        check.due("8 copy above", x.choice(3, 0), -1);
        check.due("8 copy below", x.choice(-1, 0), -1);
        check.due("8 place above", x.choice(0, 2), -1);
        check.due("8 place below", x.choice(0, -1), -1);
        check.due("9 above", x.burn(3), -1);
        check.due("9 below", x.burn(-1), -1);
        check.due("9 the first", x.burn(0), 2);
        check.due("9 one down", x.choice(0, 1), 2);
        check.due("9 one down, too", x.choice(1, 1), 0);
        check.due("9 the last", x.burn(1), 1);
        check.due("9 the first stays", x.choice(0, 1), 2);
        check.due("9 gone", x.choice(1, 1), -1);
        check.due("9 all", x.burn(0), 0);
        check.due("9 none is left", x.burn(0), -1);
        CommaCopies y = Check.with("[a/b/c/d]-[a/b]");
        for (int k = 0; k < 8; k++) {
            Check.copy(y, k / 2, k % 2);
        }
        check.due("9 of eight", y.burn(2), 7);
        for (int k = 2; k < 7; k++) {
            check.due("9 one down " + k, y.choice(k, 0) * 2 + y.choice(k, 1), k + 1);
        }
        check.due("9 the first two stay", y.choice(1, 0) * 2 + y.choice(1, 1), 1);
        check.due("9 room again", Check.copy(y, 3, 1), 7);
        check.due("9 full again", Check.copy(y, 3, 1), -3);
    }

    private static void reads() {
        CommaCopies x = Check.with("Go[/, ]now[!/ or/.]", Check.row(0, 0), Check.row(1, 1), Check.row(1, 2));
        check.due("10 first", Check.readsAll(x, 0).equals("Gonow!") ? 1 : 0, 1);
        check.due("10 second", Check.readsAll(x, 1).equals("Go, now or") ? 1 : 0, 1);
        check.due("10 third", Check.readsAll(x, 2).equals("Go, now.") ? 1 : 0, 1);
        check.due("10 the end", x.reads(0, 6), -4);
        check.due("10 far", x.reads(0, Integer.MAX_VALUE), -4);
        check.due("10 i below", x.reads(0, -1), -1);
        check.due("10 copy above", x.reads(3, 0), -1);
        check.due("10 copy below", x.reads(-1, 0), -1);
        CommaCopies y = Check.with("[a/b]xy[c/d]z", Check.row(1, 0));
        check.due("10 places at the edge", Check.readsAll(y, 0).equals("bxycz") ? 1 : 0, 1);
    }

    private static void set() {
        CommaCopies x = new CommaCopies();
        check.due("12 N", x.set(0, 3), 2);
        check.due("12 N again", x.set(0, 1), 3);
        check.due("12 N above", x.set(0, 4), -1);
        check.due("12 N below", x.set(0, 0), -1);
        check.due("12 HOW", x.set(1, 2), 0);
        check.due("12 HOW again", x.set(1, 1), 2);
        check.due("12 HOW above", x.set(1, 3), -1);
        check.due("12 HOW below", x.set(1, -1), -1);
        check.due("12 what above", x.set(2, 1), -1);
        check.due("12 what below", x.set(-1, 1), -1);
        check.due("12 N stayed", x.set(0, 2), 1);
        check.due("12 HOW stayed", x.set(1, 0), 1);
    }

    private static void count() {
        CommaCopies x = Check.with("x[a/b]-[c/d/e]", Check.row(0, 1), Check.row(1, 2), Check.row(0, 2));
        x.keep();
        x.keep();
        x.print(1, 2);
        check.due("13 places", x.count(0), 2);
        check.due("13 copies", x.count(1), 3);
        check.due("13 pasts", x.count(2), 2);
        check.due("13 bytes", x.count(3), 14);
        check.due("13 makers", x.count(4), 5);
        x.set(0, 3);
        check.due("13 makers of three", x.count(4), 6);
        check.due("13 lost", x.count(5), 1);
        x.print(0, 4);
        check.due("13 left out is not lost", x.count(5), 0);
        check.due("13 lost at six places", Check.with("[/][/][/][/][/][/]").count(5), 6);
        check.due("13 above", x.count(6), -1);
        check.due("13 below", x.count(-1), -1);
    }
}
