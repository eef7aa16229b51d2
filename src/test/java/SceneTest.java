/**
 * Every call on an object with no LETTER, with a LETTER of no PLACE, with no COPY, and with all COPIES, PASTS and
 * bytes of THE TAPE that there may be. Rows begin with the promise's number.
 */
public final class SceneTest {
    private static final Edge edge = new Edge();

    public static void main(String[] args) {
        for (Scene scene : new Scene[] {Scene.NEW, Scene.BLANK}) {
            noLetter(scene);
            noLetterPrints(scene);
            noLetterLaws(scene);
            noLetterChance(scene);
        }
        newObject();
        blankSheets();
        noPlace();
        noPlaceLaws();
        noPlaceTwoCopies();
        noPlaceTwoCopiesLaws();
        noCopy();
        noCopyLaws();
        allCopies();
        allCopiesLaws();
        allCopiesChance();
        edge.end();
    }

    private static void noLetter(Scene s) {
        edge.leavesEach("4 no LETTER", s, -1, (x, v) -> x.choices(v), 0, 5, -1);
        edge.leaves("5 no LETTER", s, -1, x -> x.cost(0, 0, 0));
        edge.leaves("6 no LETTER", s, -101, x -> x.mended(0, 0));
        edge.leaves("6 no LETTER, not mended", s, -101, x -> x.mended(0, -1));
        edge.leaves("8 no LETTER", s, -1, x -> x.choice(0, 0));
        edge.leaves("9 no LETTER", s, -1, x -> x.burn(0));
        edge.leaves("10 no LETTER", s, -1, x -> x.reads(0, 0));
        edge.leaves("11 no LETTER", s, -1, x -> x.costOf(0));
        for (int what = 0; what < 6; what++) {
            int w = what;
            edge.leaves("13 no LETTER, of " + w, s, 0, x -> x.count(w));
        }
    }

    private static void noLetterPrints(Scene s) {
        edge.leavesEach("14 no LETTER", s, -1, (x, v) -> x.print(0, v), 0, 4, 5);
        edge.leavesEach("16 no LETTER", s, -1, (x, v) -> x.could(v), 0, 1, -1);
        edge.leavesEach("17 no LETTER", s, -4, (x, v) -> x.maker(v), 0, 1);
        edge.leavesEach("18 no LETTER: nothing", s, 0, (x, v) -> x.blamed(v), 0, 1);
        edge.leavesEach("19 no LETTER", s, -1, (x, v) -> x.unjust(v), 0, 1);
    }

    private static void noLetterLaws(Scene s) {
        edge.leavesEach("20 no LETTER", s, 1, (x, v) -> x.holds(v), 0, 1, 2);
        edge.leavesEach("21 no LETTER, law 0", s, -4, (x, v) -> x.breach(0, v), 0, 1);
        edge.leavesEach("21 no LETTER, law 1", s, -4, (x, v) -> x.breach(1, v), 0, 1);
        edge.leaves("21 no LETTER, no place", s, -1, x -> x.breach(2, 0));
        edge.leavesEach("22 no LETTER: no place is needed", s, 0, (x, v) -> x.fewest(v), 0, 1, 2);
        edge.leavesEach("23 no LETTER", s, -1, (x, v) -> x.more(v, 0), 0, 1);
    }

    private static void noLetterChance(Scene s) {
        edge.leaves("24 no LETTER", s, -1, x -> x.score(0));
        edge.leavesEach("25 no LETTER", s, -2, (x, v) -> x.wrong(v, 0), 0, 6);
        edge.leaves("25 no LETTER, below", s, -2, x -> x.wrong(0, 1));
        edge.leavesEach("26 no LETTER", s, -2, (x, v) -> x.bar(v), 1, 9999);
        edge.leaves("27 no LETTER", s, -1, x -> x.put(0, 0));
        edge.leaves("28 no LETTER", s, -2, x -> x.putAll());
        edge.leavesEach("29 no LETTER", s, -1, (x, v) -> x.hidden(v, -1), 0, 1);
        edge.leaves("30 no LETTER", s, -2, x -> x.keep());
        edge.leavesEach("31 no LETTER", s, -1, (x, v) -> x.past(0, v), 0, 1);
    }

    private static void newObject() {
        Scene s = Scene.NEW;
        edge.leaves("3 no byte at all", s, -20, x -> x.letter());
        edge.leaves("15 no LETTER, no byte", s, -2, x -> x.printed());
        edge.leaves("33 no IMAGE", s, -4, x -> x.restore());
        edge.leavesEach("7 all SHEETS are nothing at first", s, -11, (x, v) -> x.copyOf(v, 0, 0), 0, 1, 2, 3);
        edge.leavesEach("35 all SHEETS are nothing at first", s, -11, (x, v) -> x.drop(v), 0, 1, 2, 3);
        edge.leavesEach("36 all SHEETS are nothing at first", s, -11, (x, v) -> x.item(v, 0, 0, 0), 0, 1, 2, 3);
        edge.leavesEach("37 all SHEETS are nothing at first", s, -11, (x, v) -> x.copy(v, 0, v, 0, 0), 0, 1, 2, 3);
        edge.leaves("12 N is 2 at first", s, 2, x -> x.set(0, 2));
        edge.leaves("12 HOW is 0 at first", s, 0, x -> x.set(1, 0));
        edge.comesBack("34 a SHEET without a LETTER", s, 12, x -> x.sheet(3, 2, 12), 12, x -> x.drop(3));
        edge.check.due("2 THE TAPE is empty at first", s.make().type('a', 1), 1);
    }

    private static void blankSheets() {
        Scene s = Scene.BLANK;
        edge.leavesEach("7 no LETTER: NOT", s, -2, (x, v) -> x.copyOf(0, 0, v), 0, 4, 5);
        edge.leaves("7 no LETTER, a SHEET of no item", s, -2, x -> x.copyOf(3, 2, 0));
        edge.leavesEach("7 no LETTER: INDEX ahead", s, -13, (x, v) -> x.copyOf(0, 0, v), 6, -1);
        edge.leaves("12 N without a LETTER", s, 3, x -> x.set(0, 3));
        edge.leaves("12 HOW without a LETTER", s, 2, x -> x.set(1, 2));
        edge.empties("15 no LETTER", s, "ab", -2, x -> x.printed());
        edge.check.due("33 an IMAGE of no LETTER", s.make().restore(), 1);
    }

    private static void noPlace() {
        Scene s = Scene.BARE;
        edge.leavesEach("4 no PLACE", s, -1, (x, v) -> x.choices(v), 0, -1);
        edge.leaves("5 no PLACE", s, -1, x -> x.cost(0, 0, 0));
        edge.leaves("6 no PLACE", s, -101, x -> x.mended(0, -1));
        edge.leaves("8 no PLACE, no COPY", s, -1, x -> x.choice(0, 0));
        edge.leaves("10 no PLACE, no COPY", s, -1, x -> x.reads(0, 0));
        edge.leaves("11 no PLACE, no COPY", s, -1, x -> x.costOf(0));
        int[] counts = {0, 0, 0, 2, 0, 0};
        for (int what = 0; what < 6; what++) {
            int w = what;
            edge.leaves("13 no PLACE, of " + w, s, counts[w], x -> x.count(w));
        }
        edge.leavesEach("14 no PLACE", s, -1, (x, v) -> x.print(0, v), 0, 4, 5);
        edge.empties("15 no PLACE, another text", s, "abc", -4, x -> x.printed());
        edge.empties("15 no PLACE, a shorter text", s, "a", -4, x -> x.printed());
        edge.empties("15 no PLACE, no text", s, "", -4, x -> x.printed());
        edge.empties("15 no PLACE, the text", s, "ab", 1, x -> x.printed());
        edge.leaves("16 no PLACE, no COPY", s, -1, x -> x.could(1));
        edge.leaves("17 no PLACE, no COPY", s, -4, x -> x.maker(0));
        edge.leavesEach("18 no PLACE, no COPY", s, 0, (x, v) -> x.blamed(v), 0, 1);
    }

    private static void noPlaceLaws() {
        Scene s = Scene.BARE;
        edge.leavesEach("20 no PLACE, no COPY", s, 1, (x, v) -> x.holds(v), 0, 1, 2);
        edge.leaves("21 no PLACE, no COPY", s, -4, x -> x.breach(0, 0));
        edge.leaves("21 no PLACE to tell of", s, -1, x -> x.breach(2, 0));
        edge.leavesEach("22 no PLACE, no COPY", s, 0, (x, v) -> x.fewest(v), 0, 1, 2);
        edge.leavesEach("23 no PLACE to tell of", s, -1, (x, v) -> x.more(v, 0), 0, 1);
        edge.leaves("25 no PLACE, bar 0, above", s, 1, x -> x.wrong(0, 0));
        edge.leaves("25 no PLACE, bar 0, below", s, 1, x -> x.wrong(0, 1));
        edge.leaves("25 no PLACE, bar 1, above", s, 0, x -> x.wrong(1, 0));
        edge.leaves("25 no PLACE, bar 1, below", s, 1, x -> x.wrong(1, 1));
        edge.leaves("26 no PLACE, q 1", s, 0, x -> x.bar(1));
        edge.leavesEach("26 no PLACE, q above", s, 1, (x, v) -> x.bar(v), 2, 9999);
        edge.leaves("27 no PLACE", s, -1, x -> x.put(0, 0));
        edge.leaves("28 no PLACE, no COPY", s, 0, x -> x.putAll());
        edge.leaves("29 no PLACE, no COPY", s, -1, x -> x.hidden(1, -1));
        edge.check.due("30 no PLACE", s.make().keep(), 0);
        edge.check.due("7 no PLACE, no item is taken", s.make().copyOf(3, 2, 0), 0);
        edge.leavesEach("7 no PLACE, above how many there are", s, -13, (x, v) -> x.copyOf(3, 2, v), 1, -1);
    }

    private static void noPlaceTwoCopies() {
        Scene s = Scene.TWINS;
        edge.leaves("8 no PLACE", s, -1, x -> x.choice(0, 0));
        edge.leaves("10 no PLACE, the first byte", s, 'a', x -> x.reads(1, 0));
        edge.leaves("10 no PLACE, the last byte", s, 'b', x -> x.reads(1, 1));
        edge.leaves("10 no PLACE, behind it", s, -4, x -> x.reads(1, 2));
        edge.leaves("11 no PLACE", s, 0, x -> x.costOf(1));
        edge.leaves("13 sets", s, 3, x -> x.count(4));
        edge.leavesEach("16 no PLACE", s, 1, (x, v) -> x.could(v), 1, 2, 3);
        edge.leaves("17 no PLACE, the last", s, 3, x -> x.maker(2));
        edge.leaves("17 no PLACE, behind it", s, -4, x -> x.maker(3));
        edge.leaves("18 no PLACE, SURE", s, 0, x -> x.blamed(0));
        edge.leaves("18 no PLACE, MAY BE", s, 3, x -> x.blamed(1));
        edge.leaves("19 no PLACE", s, 1, x -> x.unjust(2));
        edge.comesBack("9 no PLACE", s, 1, x -> x.burn(0), 1, x -> x.copyOf(3, 2, 0));
    }

    private static void noPlaceTwoCopiesLaws() {
        Scene s = Scene.TWINS;
        edge.leavesEach("20 no PLACE, two COPIES", s, 0, (x, v) -> x.holds(v), 0, 1, 2);
        edge.leaves("21 no PLACE, FRAMED by", s, 1, x -> x.breach(0, 0));
        edge.leaves("21 no PLACE, FRAMED is", s, 1, x -> x.breach(0, 1));
        edge.leaves("21 no PLACE, APART", s, 1, x -> x.breach(1, 0));
        edge.leaves("21 no PLACE, APART, the other", s, 2, x -> x.breach(1, 1));
        edge.leavesEach("21 no PLACE, NAMED", s, -1, (x, v) -> x.breach(2, v), 0, 1, -1);
        edge.leavesEach("22 no PLACE: not by all", s, -4, (x, v) -> x.fewest(v), 0, 1, 2);
        edge.leaves("24 no PLACE", s, 0, x -> x.score(1));
        edge.leaves("28 no PLACE", s, 0, x -> x.putAll());
        edge.leavesEach("29 no PLACE", s, 0, (x, v) -> x.hidden(v, -1), 1, 2, 3);
        edge.leaves("29 no PLACE, a value", s, -1, x -> x.hidden(1, 0));
        edge.leaves("31 no PAST", s, 0, x -> x.past(1, 1));
    }

    private static void noCopy() {
        Scene s = Scene.EMPTY;
        edge.leaves("8 no COPY", s, -1, x -> x.choice(0, 0));
        edge.leaves("9 no COPY", s, -1, x -> x.burn(0));
        edge.leaves("10 no COPY", s, -1, x -> x.reads(0, 0));
        edge.leaves("11 no COPY", s, -1, x -> x.costOf(0));
        int[] counts = {2, 0, 1, 15, 0, 0};
        for (int what = 0; what < 6; what++) {
            int w = what;
            edge.leaves("13 no COPY, of " + w, s, counts[w], x -> x.count(w));
        }
        edge.leavesEach("16 no COPY", s, -1, (x, v) -> x.could(v), 0, 1);
        edge.leaves("17 no COPY", s, -4, x -> x.maker(0));
        edge.leavesEach("18 no COPY", s, 0, (x, v) -> x.blamed(v), 0, 1);
        edge.leavesEach("19 no COPY: BAD ahead of NOT", s, -1, (x, v) -> x.unjust(v), 0, 1);
    }

    private static void noCopyLaws() {
        Scene s = Scene.EMPTY;
        edge.leavesEach("20 no COPY", s, 1, (x, v) -> x.holds(v), 0, 1, 2);
        edge.leaves("21 no COPY, FRAMED", s, -4, x -> x.breach(0, 1));
        edge.leaves("21 no COPY, APART", s, -4, x -> x.breach(1, 1));
        edge.leavesEach("21 no COPY, NAMED", s, -4, (x, v) -> x.breach(2, v), 0, 1);
        edge.leavesEach("22 no COPY", s, 0, (x, v) -> x.fewest(v), 0, 1, 2);
        edge.leavesEach("23 no COPY, FRAMED: the first ROW", s, 0, (x, v) -> x.more(0, v), 0, 1);
        edge.leavesEach("23 no COPY, APART: the first ROW", s, 0, (x, v) -> x.more(1, v), 0, 1);
        edge.leaves("24 no COPY", s, -1, x -> x.score(0));
        edge.leaves("25 no COPY", s, 2, x -> x.wrong(1, 1));
        edge.leaves("26 no COPY", s, 1, x -> x.bar(2));
        edge.leavesEach("27 no COPY, the first that stands for 0", s, 0, (x, v) -> x.put(v, 0), 0, 1);
        edge.leaves("27 no COPY, the last choice", s, 2, x -> x.put(1, 2));
        edge.leaves("28 no COPY", s, 0, x -> x.putAll());
        edge.leavesEach("29 no COPY", s, -1, (x, v) -> x.hidden(v, -1), 0, 1);
        edge.leaves("31 no COPY", s, -1, x -> x.past(0, 0));
        edge.leaves("33 no IMAGE", s, -4, x -> x.restore());
    }

    private static void allCopies() {
        Scene s = Scene.BRIM;
        edge.leavesEach("2 FULL", s, -3, (x, v) -> x.type(0x6161616161616161L, v), 1, 8);
        edge.leavesEach("2 BAD ahead of FULL", s, -1, (x, v) -> x.type(0x6161616161616161L, v), 0, 9);
        edge.leaves("2 a byte: BAD ahead of FULL", s, -1, x -> x.type(31, 1));
        edge.leaves("7 FULL", s, -3, x -> x.copyOf(0, 0, 0));
        edge.leaves("7 FULL, the last item", s, -3, x -> x.copyOf(0, 0, 6));
        edge.leaves("7 INDEX ahead of FULL", s, -13, x -> x.copyOf(0, 0, 7));
        edge.leaves("8 the last COPY, the last PLACE", s, 3, x -> x.choice(7, 5));
        edge.leaves("10 the last COPY, the first byte", s, '4', x -> x.reads(7, 0));
        edge.leaves("10 the last COPY, the last byte", s, '-', x -> x.reads(7, 50));
        edge.leaves("10 behind it", s, -4, x -> x.reads(7, 51));
        edge.leaves("11 six of 9", s, 54, x -> x.costOf(7));
        int[] counts = {6, 8, 6, 120, 92, 6};
        for (int what = 0; what < 6; what++) {
            int w = what;
            edge.leaves("13 all, of " + w, s, counts[w], x -> x.count(w));
        }
        edge.leaves("16 all eight", s, 1, x -> x.could(255));
        edge.leaves("16 the last", s, 1, x -> x.could(128));
        edge.leavesEach("16 a ninth", s, -1, (x, v) -> x.could(v), 256, 257, 511);
        edge.leaves("17 the last of 92", s, 224, x -> x.maker(91));
        edge.leaves("17 behind it", s, -4, x -> x.maker(92));
        edge.leaves("18 SURE", s, 0, x -> x.blamed(0));
        edge.leaves("18 MAY BE", s, 255, x -> x.blamed(1));
        edge.leaves("19 the last", s, 7, x -> x.unjust(128));
        edge.leaves("19 a ninth", s, -1, x -> x.unjust(256));
        edge.comesBack("9 the last of eight", s, 7, x -> x.burn(7), 7, x -> {
            x.sheet(0, 0, 12);
            for (int i = 0; i < 12; i++) {
                x.item(0, 0, i, 3);
            }
            int answer = x.copyOf(0, 0, 0);
            for (int i = 0; i < 12; i++) {
                x.item(0, 0, i, i % 4);
            }
            return answer;
        });
    }

    private static void allCopiesLaws() {
        Scene s = Scene.BRIM;
        edge.leavesEach("20 eight COPIES", s, 0, (x, v) -> x.holds(v), 0, 1, 2);
        edge.leaves("21 FRAMED by", s, 3, x -> x.breach(0, 0));
        edge.leaves("21 FRAMED is", s, 6, x -> x.breach(0, 1));
        edge.leaves("21 APART", s, 64, x -> x.breach(1, 0));
        edge.leaves("21 APART, the other", s, 3, x -> x.breach(1, 1));
        edge.leavesEach("21 NAMED", s, 0, (x, v) -> x.breach(2, v), 0, 5);
        edge.leaves("21 no seventh PLACE", s, -1, x -> x.breach(2, 6));
        edge.leavesEach("22 not by all", s, -4, (x, v) -> x.fewest(v), 0, 1, 2);
        edge.leavesEach("23 FULL", s, -3, (x, v) -> x.more(v, 5), 0, 1);
        edge.leavesEach("23 BAD ahead of FULL", s, -1, (x, v) -> x.more(0, v), 6, -1);
        edge.leavesEach("23 law: BAD ahead of FULL", s, -1, (x, v) -> x.more(v, 0), 2, -1);
    }

    private static void allCopiesChance() {
        Scene s = Scene.BRIM;
        edge.leaves("24 nothing is printed", s, 0, x -> x.score(7));
        edge.leaves("25 bar 6, above", s, 0, x -> x.wrong(6, 0));
        edge.leaves("25 bar 6, below", s, 1, x -> x.wrong(6, 1));
        edge.leaves("26 nothing is printed", s, 1, x -> x.bar(9999));
        edge.leaves("27 the last choice", s, 3, x -> x.put(5, 3));
        edge.leaves("28 eight times 54", s, 432, x -> x.putAll());
        // Each value is somebody's, so none scores 0 for all; by what 0 to 5 have alone each of them scores once.
        edge.leaves("29 all eight", s, 1, x -> x.hidden(255, -1));
        edge.leaves("29 the last", s, 6, x -> x.hidden(128, -1));
        edge.leaves("29 a ninth", s, -1, x -> x.hidden(256, -1));
        edge.leaves("30 FULL", s, -3, x -> x.keep());
        edge.leaves("31 in all six: not SURE", s, 0, x -> x.past(7, 0));
        edge.leaves("31 in all six: MAY BE", s, 6, x -> x.past(7, 1));
        edge.leaves("33 no IMAGE", s, -4, x -> x.restore());
        edge.leaves("34 thirteen", s, -1, x -> x.sheet(3, 0, 13));
        edge.leaves("36 the thirteenth item", s, -13, x -> x.item(3, 0, 12, 1));
        edge.leaves("36 the twelfth item", s, 1, x -> x.item(3, 0, 11, 3));
        edge.leaves("37 all twelve", s, 12, x -> x.copy(0, 0, 3, 0, 12));
        edge.leaves("37 thirteen", s, -13, x -> x.copy(0, 0, 3, 0, 13));
    }
}
