/** Boundary sentences of promises 24 to 33 and of the terms of part 4, each in a method of its own. */
public final class ChanceEdgeTest {
    private static final Edge edge = new Edge();
    private static final Check check = edge.check;
    private static final int MIN = Edge.MIN;
    private static final int MAX = Edge.MAX;

    public static void main(String[] args) {
        scoreBounds();
        scoreNoneToAll();
        wrongBounds();
        wrongLowestTerms();
        wrongMost();
        barBounds();
        barJustEnough();
        barNone();
        putBounds();
        putOfLikeOnes();
        putAllStays();
        putAllNot();
        hiddenBounds();
        hiddenAnswers();
        hiddenFirstRow();
        keepFull();
        keepNot();
        keepIsItsOwn();
        pastBounds();
        pastByThen();
        pastCopiesOfNow();
        pastMendedNow();
        imageKeeps();
        imageOverAnOlderOne();
        restoreLeavesSheetsAndTape();
        restoreAgain();
        restorePasts();
        restoreAllThatThereMayBe();
        restoreNone();
        edge.end();
    }

    private static void scoreBounds() {
        Scene s = Scene.PLAIN;
        edge.leaves("24 the first", s, 0, x -> x.score(0));
        edge.leaves("24 one PLACE", s, 1, x -> x.score(1));
        edge.leaves("24 the last", s, 0, x -> x.score(2));
        edge.leavesEach("24 no such COPY", s, -1, (x, v) -> x.score(v), -1, 3, 8, MIN, MAX);
        edge.leavesEach("24 no ninth COPY", Scene.BRIM, -1, (x, v) -> x.score(v), 8, -1, MIN, MAX);
    }

    private static void scoreNoneToAll() {
        CommaCopies x = Scene.BRIM.make();
        for (int p = 0; p < 6; p++) {
            check.due("24 at " + p + " PLACES", x.score(7), p);
            x.print(p, 3);
        }
        check.due("24 at all six", x.score(7), 6);
        check.due("24 at none", x.score(6), 0);
        x.print(5, 4);
        check.due("24 LEFT OUT is no CHOICE", x.score(7), 5);
    }

    private static void wrongBounds() {
        Scene s = Scene.PLAIN;
        int[] above = {1, 1, 0, 0, 0, 0, 0};
        int[] below = {1, 2, 1, 1, 1, 1, 1};
        for (int bar = 0; bar <= 6; bar++) {
            int b = bar;
            edge.leaves("25 above by BAR " + bar, s, above[bar], x -> x.wrong(b, 0));
            edge.leaves("25 below by BAR " + bar, s, below[bar], x -> x.wrong(b, 1));
        }
        for (Scene any : Scene.values()) {
            edge.leavesEach("25 no such BAR", any, -1, (x, v) -> x.wrong(v, 0), -1, 7, MIN, MAX);
            edge.leavesEach("25 no such part", any, -1, (x, v) -> x.wrong(0, v), -1, 2, MIN, MAX);
        }
    }

    private static void wrongLowestTerms() {
        CommaCopies x = Check.with("[a/b][a/b/c]");
        Check.print(x, 0, 0);
        // Of 6 ROWS 1 scores 2, 3 score 1, 2 score 0.
        int[] above = {1, 2, 1, 0};
        int[] below = {1, 3, 6, 1};
        for (int bar = 0; bar < 4; bar++) {
            check.due("25 above, in lowest terms, " + bar, x.wrong(bar, 0), above[bar]);
            check.due("25 below, in lowest terms, " + bar, x.wrong(bar, 1), below[bar]);
        }
    }

    private static CommaCopies six() {
        CommaCopies x = Check.with("[a/b/c/d]".repeat(6));
        Check.print(x, 3, 3, 3, 3, 3, 3);
        return x;
    }

    private static void wrongMost() {
        CommaCopies x = six();
        // 3 to the sixth is 729; of 4096 ROWS 729, 1458, 1215, 540, 135, 18, 1 score 0 .. 6.
        int[] above = {1, 3367, 1909, 347, 77, 19, 1};
        int[] below = {1, 4096, 4096, 2048, 2048, 4096, 4096};
        for (int bar = 0; bar <= 6; bar++) {
            check.due("25 above of 4096, " + bar, x.wrong(bar, 0), above[bar]);
            check.due("25 below of 4096, " + bar, x.wrong(bar, 1), below[bar]);
        }
    }

    private static void barBounds() {
        Scene s = Scene.PLAIN;
        edge.leaves("26 q 1", s, 0, x -> x.bar(1));
        edge.leaves("26 q 9999", s, 2, x -> x.bar(9999));
        for (Scene any : Scene.values()) {
            edge.leavesEach("26 no such q", any, -1, (x, v) -> x.bar(v), 0, 10000, -1, MIN, MAX);
        }
    }

    /** The least by which WRONG is 1 / q or less: exactly so is enough. */
    private static void barJustEnough() {
        edge.leaves("26 just 1 / 2", Scene.PLAIN, 1, x -> x.bar(2));
        edge.leaves("26 not 1 / 3", Scene.PLAIN, 2, x -> x.bar(3));
        CommaCopies x = six();
        int[] q = {1, 2, 3, 5, 6, 26, 27, 215, 216, 4096};
        int[] bar = {0, 2, 3, 3, 4, 4, 5, 5, 6, 6};
        for (int k = 0; k < q.length; k++) {
            check.due("26 q " + q[k], x.bar(q[k]), bar[k]);
        }
    }

    private static void barNone() {
        CommaCopies x = six();
        check.due("26 the last that is enough", x.bar(4096), 6);
        check.due("26 none is enough", x.bar(4097), -4);
        check.due("26 none is enough for the largest", x.bar(9999), -4);
        x.print(5, 5);
        check.due("26 none scores 6, one PLACE is LOST", x.bar(9999), 6);
        CommaCopies two = Check.with("[a/b]".repeat(6));
        Check.print(two, 0, 1, 0, 1, 0, 1);
        check.due("26 64 ROWS", two.bar(64), 6);
        check.due("26 64 ROWS are too few", two.bar(65), -4);
    }

    private static void putBounds() {
        Scene s = Scene.PLAIN;
        int[][] stands = {{1, 0}, {0, 1, 2}, {0, 1, 3, 2}};
        for (int p = 0; p < 3; p++) {
            for (int c = 0; c < stands[p].length; c++) {
                int place = p;
                int choice = c;
                edge.leaves("27 for " + c + " at " + p, s, stands[p][c], x -> x.put(place, choice));
            }
        }
        edge.leavesEach("27 no CHOICE of two", s, -1, (x, v) -> x.put(0, v), -1, 2, 3, MIN, MAX);
        edge.leavesEach("27 no CHOICE of three", s, -1, (x, v) -> x.put(1, v), -1, 3, 4, MIN, MAX);
        edge.leavesEach("27 no CHOICE of four", s, -1, (x, v) -> x.put(2, v), -1, 4, 5, MIN, MAX);
        edge.leavesEach("27 no such PLACE", s, -1, (x, v) -> x.put(v, 0), -1, 3, 6, MIN, MAX);
        edge.leavesEach("27 no seventh PLACE", Scene.BRIM, -1, (x, v) -> x.put(v, 0), 6, -1, MIN, MAX);
    }

    /** Of like ones the first: what stands for 0 least, and so on. */
    private static void putOfLikeOnes() {
        CommaCopies x = Check.with("[a/b/c/d]", Check.row(3));
        for (int c = 0; c < 4; c++) {
            check.due("27 no COSTS: each for itself", x.put(0, c), c);
        }
        x.cost(0, 3, 1);
        int[] stands = {0, 1, 3, 2};
        for (int c = 0; c < 4; c++) {
            check.due("27 what stands for 0 is least, then for 1", x.put(0, c), stands[c]);
        }
        x.cost(0, 1, 1);
        x.cost(0, 2, 1);
        int[] last = {1, 2, 3, 0};
        for (int c = 0; c < 4; c++) {
            check.due("27 0 alone costs nothing", x.put(0, c), last[c]);
        }
    }

    /** PUT is done: ROWS change, and THE PRINT, PASTS, what is MENDED stay. */
    private static void putAllStays() {
        edge.same("28 PUT", () -> {
            CommaCopies x = Scene.PLAIN.make();
            check.due("28 the sum", x.putAll(), 14);
            return x;
        }, () -> {
            CommaCopies x = Scene.PLAIN.make();
            for (int c = 0; c < 3; c++) {
                x.burn(0);
            }
            Check.copies(x, Check.row(1, 0, 0), Check.row(0, 1, 1), Check.row(1, 2, 2));
            x.sheet(3, 2, 0);
            return x;
        });
        CommaCopies x = Scene.PLAIN.make();
        x.putAll();
        check.due("28 done once more", x.putAll(), 14);
        check.due("28 nothing more to change", x.put(0, 0), 0);
    }

    private static void putAllNot() {
        edge.leaves("28 NOT", Scene.NEW, -2, x -> x.putAll());
        edge.leaves("28 NOT", Scene.BLANK, -2, x -> x.putAll());
        edge.leaves("28 no COPY", Scene.EMPTY, 0, x -> x.putAll());
    }

    private static void hiddenBounds() {
        Scene s = Scene.PLAIN;
        edge.leavesEach("29 no COPY", s, -1, (x, v) -> x.hidden(0, v), -1, 0, 2);
        edge.leavesEach("29 no such COPY", s, -1, (x, v) -> x.hidden(v, -1), 8, 9, 256, -1, MIN, MIN + 1, MAX);
        edge.leavesEach("29 no such PLACE", s, -1, (x, v) -> x.hidden(3, v), -2, 3, 6, MIN, MAX);
        edge.leavesEach("29 no such PLACE of six", Scene.BRIM, -1, (x, v) -> x.hidden(3, v), -2, 6, MIN, MAX);
        edge.leavesEach("29 no such COPY of eight", Scene.BRIM, -1, (x, v) -> x.hidden(v, 0), 0, 256, -1, MIN, MAX);
    }

    private static void hiddenAnswers() {
        Scene s = Scene.PLAIN;
        edge.leaves("29 one alone, MENDED helps", s, 2, x -> x.hidden(1, -1));
        int[] row = {0, 1, 0};
        for (int p = 0; p < 3; p++) {
            int place = p;
            edge.leaves("29 one alone at " + p, s, row[p], x -> x.hidden(1, place));
            edge.leaves("29 two LEAVE at " + p, s, 4, x -> x.hidden(3, place));
            edge.leaves("29 three, more than N, LEAVE at " + p, s, 4, x -> x.hidden(7, place));
        }
        edge.leaves("29 two", s, 0, x -> x.hidden(3, -1));
        edge.leaves("29 three, more than N", s, 0, x -> x.hidden(7, -1));
    }

    /** Of like ones the first as a ROW; LEFT OUT counts behind all CHOICES. */
    private static void hiddenFirstRow() {
        CommaCopies x = Check.with("[a/b/c/d][a/b]", Check.row(0, 0), Check.row(2, 1));
        x.set(1, 1);
        check.due("29 ANY: 0 but for one PLACE", x.hidden(3, -1), 1);
        check.due("29 ANY: the first at 0", x.hidden(3, 0), 0);
        check.due("29 ANY: the first at 1", x.hidden(3, 1), 1);
        x.set(1, 2);
        check.due("29 LEAVE: none scores", x.hidden(3, -1), 0);
        check.due("29 LEAVE at 0", x.hidden(3, 0), 4);
        x.set(1, 0);
        check.due("29 MIX: one each", x.hidden(3, -1), 1);
        check.due("29 MIX: the first at 0", x.hidden(3, 0), 0);
        check.due("29 MIX: the first at 1", x.hidden(3, 1), 1);
    }

    private static void keepFull() {
        CommaCopies x = Scene.EMPTY.make();
        for (int k = 1; k < 6; k++) {
            check.due("30 PAST " + k, x.keep(), k);
        }
        check.due("30 FULL", x.keep(), -3);
        check.due("13 six PASTS", x.count(2), 6);
        edge.leaves("30 FULL changes nothing", Scene.BRIM, -3, y -> y.keep());
        Check.letter(x, "[a/b]");
        check.due("30 room by a new LETTER", x.keep(), 0);
    }

    private static void keepNot() {
        edge.leaves("30 NOT", Scene.NEW, -2, x -> x.keep());
        edge.leaves("30 NOT", Scene.BLANK, -2, x -> x.keep());
    }

    private static void keepIsItsOwn() {
        CommaCopies x = Check.with("[a/b]", Check.row(0), Check.row(1));
        x.print(0, 1);
        check.due("30 its number", x.keep(), 0);
        x.print(0, 0);
        check.due("31 the PRINT of then: SURE", x.past(1, 0), 1);
        check.due("31 the PRINT of then: not the other", x.past(0, 0), 0);
        check.due("30 THE PRINT stays", x.print(0, 0), 0);
    }

    private static void pastBounds() {
        Scene s = Scene.PLAIN;
        int[] sure = {0, 2, 0};
        int[] maybe = {1, 2, 1};
        for (int c = 0; c < 3; c++) {
            int copy = c;
            edge.leaves("31 SURE " + c, s, sure[c], x -> x.past(copy, 0));
            edge.leaves("31 MAY BE " + c, s, maybe[c], x -> x.past(copy, 1));
        }
        edge.leavesEach("31 no such COPY", s, -1, (x, v) -> x.past(v, 0), -1, 3, 8, MIN, MAX);
        edge.leavesEach("31 no such thing", s, -1, (x, v) -> x.past(0, v), -1, 2, MIN, MAX);
        edge.leavesEach("31 no ninth COPY", Scene.BRIM, -1, (x, v) -> x.past(v, 1), 8, -1, MIN, MAX);
    }

    /** By N, HOW of then, whatever they are now. */
    private static void pastByThen() {
        CommaCopies x = Check.with("[a/b/c]", Check.row(0), Check.row(1), Check.row(0));
        x.print(0, 4);
        x.set(1, 2);
        x.set(0, 1);
        x.keep();
        x.set(0, 2);
        x.keep();
        x.set(1, 1);
        x.print(0, 2);
        x.keep();
        for (int n = 1; n <= 3; n++) {
            for (int how = 0; how < 3; how++) {
                x.set(0, n);
                x.set(1, how);
                check.due("31 SURE, N, HOW of now " + n + how, x.past(1, 0), 2);
                check.due("31 not SURE, N, HOW of now " + n + how, x.past(0, 0), 0);
                check.due("31 MAY BE, N, HOW of now " + n + how, x.past(2, 1), 2);
            }
        }
        check.due("12 N is as told", x.set(0, 3), 3);
        check.due("12 HOW is as told", x.set(1, 2), 2);
    }

    private static void pastCopiesOfNow() {
        CommaCopies x = Check.with("[a/b]", Check.row(0), Check.row(1));
        x.print(0, 1);
        x.keep();
        check.due("31 SURE of two", x.past(1, 0), 1);
        Check.copy(x, 1);
        check.due("31 not SURE of three", x.past(1, 0), 0);
        check.due("31 the new one MAY BE", x.past(2, 1), 1);
        x.burn(1);
        check.due("31 the new one is SURE", x.past(1, 0), 1);
        x.burn(1);
        check.due("31 none is left who could", x.past(0, 1), 0);
        CommaCopies all = Scene.BRIM.make();
        for (int c = 1; c < 8; c++) {
            all.burn(1);
        }
        check.due("31 in all six PASTS SURE", all.past(0, 0), 6);
    }

    /** Of then are N and HOW alone: what the paper MENDS to now CAN be, what it MENDED to then CAN not. */
    private static void pastMendedNow() {
        CommaCopies x = Check.with("[a/b/c]", Check.row(0), Check.row(1));
        x.mended(0, 2);
        x.print(0, 2);
        x.keep();
        check.due("31 MENDED now as then", x.past(0, 1) * 10 + x.past(1, 1), 11);
        x.mended(0, -1);
        check.due("31 MENDED no more", x.past(0, 1) * 10 + x.past(1, 1), 0);
        x.mended(0, 2);
        check.due("31 MENDED again", x.past(0, 1) * 10 + x.past(1, 1), 11);
        check.due("31 nobody is SURE of what is MENDED", x.past(0, 0) * 10 + x.past(1, 0), 0);
    }

    /** An IMAGE changes nothing that is seen of now. */
    private static void imageKeeps() {
        for (Scene s : Scene.values()) {
            edge.same("33 as it was, in " + s, () -> {
                CommaCopies x = s.make();
                check.due("32 image", x.image(), 1);
                check.due("33 restore", x.restore(), 1);
                return x;
            }, () -> {
                CommaCopies x = s.make();
                x.image();
                return x;
            });
            for (Seen part : new Seen[] {Seen.STATE, Seen.TEXT, Seen.TAPE, Seen.SHEETS}) {
                CommaCopies x = s.make();
                x.image();
                check.due("32 " + part + " stays in " + s, part.of(x).equals(part.of(s.make())) ? 1 : 0, 1);
            }
        }
    }

    private static void imageOverAnOlderOne() {
        CommaCopies x = Scene.PLAIN.make();
        x.image();
        x.burn(0);
        x.image();
        x.burn(0);
        check.due("33 the newer one", x.restore(), 1);
        check.due("33 two COPIES", x.count(1), 2);
    }

    /** All but SHEETS, THE TAPE. */
    private static void restoreLeavesSheetsAndTape() {
        edge.same("33 PLAIN's IMAGE", () -> {
            CommaCopies x = Scene.PLAIN.make();
            check.due("33 restore", x.restore(), 1);
            return x;
        }, () -> {
            CommaCopies x = Check.with("[p/q]", Check.row(1));
            x.print(0, 1);
            x.set(0, 1);
            x.set(1, 1);
            x.keep();
            x.image();
            x.sheet(0, 0, 5);
            x.sheet(1, 1, 5);
            int[][] items = {{0, 1, 2, 3, 1}, {3, 0, 1, 0, 2}};
            for (int s = 0; s < 2; s++) {
                for (int i = 0; i < 5; i++) {
                    x.item(s, s, i, items[s][i]);
                }
            }
            x.sheet(3, 2, 0);
            Check.type(x, Scene.PLAIN.tape());
            return x;
        });
        CommaCopies full = Scene.BRIM.make("");
        full.image();
        Check.type(full, "a".repeat(120));
        full.restore();
        check.due("33 THE TAPE stays full", full.type('a', 1), -3);
    }

    private static void restoreAgain() {
        CommaCopies x = Scene.BRIM.make();
        x.image();
        for (int k = 0; k < 3; k++) {
            x.burn(0);
            x.cost(0, 0, 1);
            x.print(5, 4);
            x.set(0, 1);
            x.mended(3, 2);
            check.due("33 once more", x.restore(), 1);
            check.due("33 COPIES", x.count(1), 8);
            check.due("33 the first COPY", x.choice(0, 0), 1);
            check.due("33 COST", x.cost(0, 0, 9), 9);
            check.due("33 THE PRINT", x.print(5, 5), 5);
            check.due("33 N", x.set(0, 3), 3);
            check.due("33 MENDED", x.mended(3, -1), -1);
            check.due("33 PASTS", x.keep(), -3);
        }
        Check.letter(x, "ab");
        x.restore();
        check.due("33 THE LETTER", x.count(3), 120);
    }

    /** PASTS with N, HOW as they were then. */
    private static void restorePasts() {
        CommaCopies x = Check.with("[a/b/c]", Check.row(0), Check.row(1));
        x.print(0, 4);
        x.set(1, 2);
        x.keep();
        x.image();
        Check.letter(x, "[a/b/c]");
        x.print(0, 0);
        x.set(0, 1);
        x.set(1, 0);
        x.keep();
        x.keep();
        check.due("33 one PAST", x.restore() * 10 + x.count(2), 11);
        check.due("33 both are SURE", x.past(0, 0) * 10 + x.past(1, 0), 11);
        Check.letter(x, "[a/b/c]");
        Check.copies(x, Check.row(0), Check.row(1));
        x.print(0, 4);
        x.set(0, 1);
        x.keep();
        x.restore();
        check.due("33 N of the PAST", x.past(0, 0), 1);
        Check.letter(x, "[a/b/c]");
        x.print(0, 4);
        x.set(0, 2);
        x.set(1, 0);
        x.keep();
        x.restore();
        check.due("33 HOW of the PAST", x.past(0, 0), 1);
    }

    /** Nobody has CHOICE 1 anywhere. */
    private static CommaCopies allPlacesAndPasts() {
        CommaCopies x = Check.with("[a/b/c/d]".repeat(6) + "-".repeat(65) + "z");
        for (int c = 0; c < 8; c++) {
            int[] row = new int[6];
            for (int p = 0; p < 6; p++) {
                row[p] = (c >> p % 3 & 1) == 0 ? 0 : 2 + p % 2;
            }
            Check.copy(x, row);
        }
        x.set(0, 3);
        x.set(1, 2);
        for (int k = 0; k < 6; k++) {
            Check.print(x, 5, 5, 5, 5, 5, 5);
            x.print(k, 4);
            x.keep();
        }
        x.image();
        return x;
    }

    /** The last byte, the last PLACE and the last PAST come back, too, over another LETTER that has as many of them. */
    private static void restoreAllThatThereMayBe() {
        edge.same("33 all that there may be", () -> {
            CommaCopies x = allPlacesAndPasts();
            check.due("33 another LETTER of 120 bytes", Check.letter(x, "[a/b]".repeat(6) + "+".repeat(89) + "y"), 6);
            x.set(0, 1);
            x.set(1, 0);
            Check.print(x, 1, 1, 1, 1, 1, 1);
            for (int k = 0; k < 6; k++) {
                x.keep();
            }
            for (int c = 0; c < 8; c++) {
                Check.copy(x, 1, 1, 1, 1, 1, 1);
            }
            check.due("33 restore", x.restore(), 1);
            return x;
        }, () -> allPlacesAndPasts());
        CommaCopies x = allPlacesAndPasts();
        check.due("31 all MAY BE, by LEFT OUT at each PLACE", x.past(0, 1), 6);
        check.due("10 the last byte", x.reads(0, 71), 'z');
        check.due("4 the last PLACE", x.choices(5), 4);
    }

    private static void restoreNone() {
        for (Scene s : new Scene[] {Scene.NEW, Scene.BARE, Scene.TWINS, Scene.EMPTY, Scene.BRIM}) {
            edge.leaves("33 NONE", s, -4, x -> x.restore());
        }
        CommaCopies x = Scene.NEW.make();
        x.image();
        x.set(0, 3);
        Check.letter(x, "[a/b]");
        check.due("33 to no LETTER", x.restore(), 1);
        check.due("33 no LETTER", x.putAll(), -2);
        check.due("33 N of then", x.set(0, 2), 2);
        Check.letter(x, "[a/b]");
        check.due("33 a new LETTER, LOST at first", x.print(0, 5), 5);
        check.due("33 a new LETTER, not MENDED at first", x.mended(0, -1), -1);
    }
}
