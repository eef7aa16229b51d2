/** Boundary sentences of promises 2 to 13 and of the terms of part 1, each in a method of its own. */
public final class LetterEdgeTest {
    private static final Edge edge = new Edge();
    private static final Check check = edge.check;
    private static final int MIN = Edge.MIN;
    private static final int MAX = Edge.MAX;
    private static final long EIGHT = 0x6161616161616161L;

    public static void main(String[] args) {
        typeCountsOfBytes();
        typeBytesOfEachRank();
        typeLargestAndLeast();
        typeFull();
        typeHighestFirst();
        letterUpToSixPlaces();
        letterTwoToFourChoices();
        letterBytesOfChoices();
        letterOtherSigns();
        letterEnds();
        letterLongest();
        letterFaultStays();
        letterForgets();
        choicesOfPlaces();
        costBounds();
        costRefusals();
        mendedBounds();
        mendedRefusals();
        copyOfSheetsAndLanes();
        copyOfIndex();
        copyOfNoItemTaken();
        copyOfNoChoice();
        copyOfSigns();
        copyOfFull();
        choiceBounds();
        burnBounds();
        burnEnds();
        readsBounds();
        readsNothing();
        costOfBounds();
        setBounds();
        countBounds();
        countLostAndLeftOut();
        edge.end();
    }

    private static void typeCountsOfBytes() {
        for (Scene s : new Scene[] {Scene.NEW, Scene.PLAIN}) {
            edge.leavesEach("2 n not 1 .. 8", s, -1, (x, v) -> x.type(EIGHT, v), 0, 9, -1, 64, 256 + 1, MIN, MIN + 1, MAX);
        }
        for (int n = 1; n <= 8; n++) {
            check.due("2 n = " + n, new CommaCopies().type(EIGHT, n), n);
        }
    }

    /** Each of the n lowest bytes must be as told, the byte above them need not. */
    private static void typeBytesOfEachRank() {
        int[] bad = {0, 1, 31, 127, 128, 160, 255};
        for (int rank = 0; rank < 8; rank++) {
            long rest = EIGHT & ~(255L << (8 * rank));
            for (int b : bad) {
                long w = rest | (long) b << (8 * rank);
                int n = rank + 1;
                edge.leaves("2 byte " + b + " of rank " + rank, Scene.PLAIN, -1, x -> x.type(w, n));
                if (rank > 0) {
                    check.due("2 byte " + b + " above", new CommaCopies().type(w, rank), rank);
                }
            }
            check.due("2 byte 32", new CommaCopies().type(rest | 32L << (8 * rank), 8), 8);
            check.due("2 byte 126", new CommaCopies().type(rest | 126L << (8 * rank), 8), 8);
        }
    }

    private static void typeLargestAndLeast() {
        long[] words = {Long.MIN_VALUE, Long.MAX_VALUE, -1L, 0L};
        for (long w : words) {
            edge.leavesEach("2 w = " + w, Scene.PLAIN, -1, (x, v) -> x.type(w, v), 1, 7, 8, MIN, MAX);
        }
        CommaCopies x = new CommaCopies();
        check.due("2 the largest of good bytes", x.type(0x7e7e7e7e7e7e7e7eL, 8), 8);
        check.due("2 a sign above", x.type(Long.MIN_VALUE | EIGHT >>> 8, 7), 15);
    }

    private static CommaCopies typed(int bytes) {
        CommaCopies x = new CommaCopies();
        Check.type(x, "a".repeat(bytes));
        return x;
    }

    private static void typeFull() {
        for (int n = 1; n <= 8; n++) {
            check.due("2 to 120 by " + n, typed(120 - n).type(EIGHT, n), 120);
            CommaCopies x = typed(121 - n);
            check.due("2 beyond 120 by " + n, x.type(EIGHT, n), -3);
            check.due("2 FULL brings no byte", x.letter(), 0);
            check.due("2 FULL leaves as many bytes", x.count(3), 121 - n);
        }
        CommaCopies x = typed(113);
        check.due("2 eight more are too many", x.type(EIGHT, 8), -3);
        check.due("2 seven more are not", x.type(EIGHT, 7), 120);
        check.due("2 nothing more", x.type('a', 1), -3);
        x.letter();
        check.due("2 room again", x.type('a', 1), 1);
    }

    private static void typeHighestFirst() {
        CommaCopies x = new CommaCopies();
        x.type(Check.word("zabcdefg"), 7);
        x.type(Check.word("hijklmno"), 8);
        x.letter();
        Check.copy(x);
        check.due("2 the highest first", Check.readsAll(x, 0).equals("abcdefghijklmno") ? 1 : 0, 1);
    }

    private static int letter(String text) {
        return Check.letter(new CommaCopies(), text);
    }

    private static void letterUpToSixPlaces() {
        for (int n = 0; n <= 6; n++) {
            check.due("3 PLACES: " + n, letter("x" + "[a/b]".repeat(n)), n);
        }
        check.due("3 a seventh [", letter("[a/b]".repeat(6) + "["), -50);
        check.due("3 a seventh [ further on", letter("[a/b]".repeat(6) + "xyz[a/b]"), -53);
        check.due("3 behind six", letter("[a/b]".repeat(6) + "xyz"), 6);
    }

    private static void letterTwoToFourChoices() {
        check.due("3 a ] behind no byte", letter("[]"), -21);
        check.due("3 a ] behind one CHOICE", letter("x[a]"), -23);
        check.due("3 a ] behind one CHOICE of 8", letter("[12345678]"), -29);
        check.due("3 a ] behind one CHOICE, a later PLACE", letter("[a/b/c/d][a]"), -31);
        CommaCopies x = Check.with("[a/b][a/b/c][a/b/c/d]");
        check.due("3 two, three, four CHOICES", x.choices(0) * 100 + x.choices(1) * 10 + x.choices(2), 234);
        check.due("3 a fourth /", letter("[a/b/c/d/e]"), -28);
        check.due("3 a fourth / of empty ones", letter("[////]"), -24);
        check.due("3 a fourth /, a later PLACE", letter("[a/b][////]"), -29);
    }

    private static void letterBytesOfChoices() {
        String eight = "12345678";
        for (int k = 0; k < 4; k++) {
            String ahead = "[" + "a/".repeat(k);
            check.due("3 eight bytes of CHOICE " + k, letter(ahead + eight + (k == 0 ? "/]" : "]")), 1);
            check.due("3 a ninth byte of CHOICE " + k, letter(ahead + eight + "9/]"), -20 - ahead.length() - 8);
            check.due("3 a ninth byte, a blank, of CHOICE " + k, letter(ahead + eight + " ]"), -20 - ahead.length() - 8);
        }
        check.due("3 a [ in place of a ninth byte", letter("[" + eight + "["), -29);
        check.due("3 no bytes", letter("[/]"), 1);
        check.due("3 four of no bytes", letter("[///]"), 1);
        check.due("3 nine bytes outside", letter("123456789[/]123456789[/]123456789"), 2);
    }

    private static void letterOtherSigns() {
        check.due("3 a [ within a PLACE", letter("[["), -21);
        check.due("3 a [ within a later CHOICE", letter("[a/[b]"), -23);
        check.due("3 a / outside", letter("/"), -20);
        check.due("3 a / behind a PLACE", letter("[a/b]/"), -25);
        check.due("3 a ] outside", letter("a]"), -21);
        check.due("3 a ] behind a PLACE", letter("[a/b]]"), -25);
        check.due("3 the first of several", letter("a]/[["), -21);
        check.due("3 the first, though the end is within a PLACE", letter("[a/b/c/d/["), -28);
        check.due("3 blanks", letter(" [ / ] "), 1);
        check.due("3 the least and the largest byte", letter(" ~[ /~]"), 1);
    }

    private static void letterEnds() {
        check.due("3 no byte at all", letter(""), -20);
        check.due("3 the end behind [", letter("["), -21);
        check.due("3 the end behind one CHOICE", letter("[a"), -22);
        check.due("3 the end behind /", letter("[a/"), -23);
        check.due("3 the end behind the fourth CHOICE", letter("[a/b/c/d"), -28);
        check.due("3 the end behind the eighth byte", letter("[12345678"), -29);
        check.due("3 the end within the sixth PLACE", letter("[a/b]".repeat(5) + "[a/b"), -49);
    }

    private static void letterLongest() {
        check.due("3 120 bytes", letter("x".repeat(115) + "[a/b]"), 1);
        check.due("3 the end within a PLACE at 120", letter("x".repeat(116) + "[a/b"), -140);
        check.due("3 the last byte of 120", letter("x".repeat(119) + "]"), -139);
        check.due("3 a [ at the end of 120", letter("x".repeat(119) + "["), -140);
        CommaCopies x = new CommaCopies();
        Check.letter(x, "x".repeat(120));
        check.due("13 120 bytes", x.count(3), 120);
    }

    /** A FAULT: THE TAPE is empty then, THE LETTER and all else stay. */
    private static void letterFaultStays() {
        for (Scene s : Scene.values()) {
            edge.empties("3 a FAULT", s, "[a]", -22, x -> x.letter());
            edge.empties("3 a FAULT of 120 bytes", s, "[".repeat(120), -21, x -> x.letter());
            edge.empties("3 a FAULT of no byte", s, "", -20, x -> x.letter());
        }
    }

    /** What goes with a new LETTER: seen against one that was never otherwise; what does not go: N, HOW, IMAGE, SHEETS. */
    private static void letterForgets() {
        edge.same("3 COSTS, what is MENDED, COPIES, THE PRINT, PASTS go", () -> {
            CommaCopies x = Scene.BRIM.make("[a/b][c/d/e]");
            check.due("3 two PLACES", x.letter(), 2);
            return x;
        }, () -> {
            CommaCopies x = Check.with("[a/b][c/d/e]");
            x.set(0, 3);
            for (int s = 0; s < 4; s++) {
                x.sheet(s, s % 3, 12);
                for (int i = 0; i < 12; i++) {
                    x.item(s, s % 3, i, i % 4);
                }
            }
            return x;
        });
        CommaCopies y = Scene.PLAIN.make("[a/b/c]");
        check.due("3 one PLACE", y.letter(), 1);
        check.due("3 THE TAPE is empty then", y.type('a', 1), 1);
        check.due("3 not MENDED", y.mended(0, 0), -1);
        check.due("3 no COST", y.cost(0, 0, 0), 0);
        check.due("3 LOST", y.print(0, 0), 5);
        check.due("3 N stays", y.set(0, 2), 2);
        check.due("3 HOW stays", y.set(1, 2), 2);
        check.due("3 SHEETS stay", y.drop(1), 5);
        check.due("3 the IMAGE stays", y.restore(), 1);
        check.due("3 the IMAGE's copy", y.choice(0, 0), 1);
    }

    private static void choicesOfPlaces() {
        Scene s = Scene.PLAIN;
        int[] many = {2, 3, 4};
        for (int p = 0; p < 3; p++) {
            int place = p;
            edge.leaves("4 PLACE " + p, s, many[p], x -> x.choices(place));
        }
        edge.leavesEach("4 no such PLACE", s, -1, (x, v) -> x.choices(v), -1, 3, 5, 6, MIN, MAX);
        edge.leaves("4 the sixth", Scene.BRIM, 4, x -> x.choices(5));
        edge.leavesEach("4 the seventh", Scene.BRIM, -1, (x, v) -> x.choices(v), 6, -1, MIN, MAX);
    }

    private static void costBounds() {
        edge.comesBack("5 COST 9", Scene.PLAIN, 3, x -> x.cost(0, 0, 9), 9, x -> x.cost(0, 0, 3));
        edge.comesBack("5 COST 0", Scene.PLAIN, 9, x -> x.cost(1, 2, 0), 0, x -> x.cost(1, 2, 9));
        edge.comesBack("5 the last CHOICE", Scene.PLAIN, 4, x -> x.cost(2, 3, 5), 5, x -> x.cost(2, 3, 4));
        edge.comesBack("5 the last PLACE", Scene.BRIM, 9, x -> x.cost(5, 3, 0), 0, x -> x.cost(5, 3, 9));
        edge.leaves("5 0 at first", Scene.EMPTY, 0, x -> x.cost(1, 2, 0));
    }

    private static void costRefusals() {
        Scene s = Scene.PLAIN;
        edge.leavesEach("5 no such COST", s, -1, (x, v) -> x.cost(0, 0, v), -1, 10, MIN, MAX);
        edge.leavesEach("5 no such CHOICE of two", s, -1, (x, v) -> x.cost(0, v, 1), -1, 2, 3, 4, MIN, MAX);
        edge.leavesEach("5 no such CHOICE of three", s, -1, (x, v) -> x.cost(1, v, 1), -1, 3, 4, MIN, MAX);
        edge.leavesEach("5 no such CHOICE of four", s, -1, (x, v) -> x.cost(2, v, 1), -1, 4, 5, MIN, MAX);
        edge.leavesEach("5 no such PLACE", s, -1, (x, v) -> x.cost(v, 0, 1), -1, 3, 6, MIN, MAX);
        edge.leavesEach("5 no seventh PLACE", Scene.BRIM, -1, (x, v) -> x.cost(v, 0, 1), 6, MIN, MAX);
    }

    private static void mendedBounds() {
        Scene s = Scene.PLAIN;
        edge.comesBack("6 to the first", s, -1, x -> x.mended(0, 0), 0, x -> x.mended(0, -1));
        edge.comesBack("6 to the last of two", s, -1, x -> x.mended(0, 1), 1, x -> x.mended(0, -1));
        edge.comesBack("6 to the last of four", s, -1, x -> x.mended(2, 3), 3, x -> x.mended(2, -1));
        edge.comesBack("6 not", s, 1, x -> x.mended(1, -1), -1, x -> x.mended(1, 1));
        edge.leaves("6 not at first; this is no refusal", s, -1, x -> x.mended(0, -1));
        edge.comesBack("6 the last PLACE", Scene.BRIM, -1, x -> x.mended(5, 3), 3, x -> x.mended(5, -1));
    }

    private static void mendedRefusals() {
        Scene s = Scene.PLAIN;
        edge.leavesEach("6 no such CHOICE of two", s, -101, (x, v) -> x.mended(0, v), -2, 2, 3, 4, 5, MIN, MAX);
        edge.leavesEach("6 no such CHOICE of three", s, -101, (x, v) -> x.mended(1, v), -2, 3, 4, 5, MIN, MAX);
        edge.leavesEach("6 no such CHOICE of four", s, -101, (x, v) -> x.mended(2, v), -2, 4, 5, MIN, MAX);
        edge.leavesEach("6 no such PLACE", s, -101, (x, v) -> x.mended(v, 0), -1, 3, 6, MIN, MAX);
        edge.leavesEach("6 no such PLACE, not mended", s, -101, (x, v) -> x.mended(v, -1), -1, 3, 6, MIN, MAX);
        edge.leavesEach("6 no seventh PLACE", Scene.BRIM, -101, (x, v) -> x.mended(v, -1), 6, -1, MIN, MAX);
    }

    private static void copyOfSheetsAndLanes() {
        Scene s = Scene.PLAIN;
        edge.leavesEach("7 no such SHEET", s, -1, (x, v) -> x.copyOf(v, 0, 0), -1, 4, MIN, MAX);
        edge.leavesEach("7 no such LANE", s, -1, (x, v) -> x.copyOf(0, v, 0), -1, 3, MIN, MAX);
        edge.leavesEach("7 no such LANE: BAD ahead of NULL", s, -1, (x, v) -> x.copyOf(2, v, 0), -1, 3, MIN, MAX);
        edge.leavesEach("7 NULL by each LANE", s, -11, (x, v) -> x.copyOf(2, v, 0), 0, 1, 2);
        edge.leavesEach("7 NULL ahead of INDEX", s, -11, (x, v) -> x.copyOf(2, 0, v), -1, 9, MIN, MAX);
        edge.leavesEach("7 CAST of bytes", s, -12, (x, v) -> x.copyOf(0, v, 0), 1, 2);
        edge.leavesEach("7 CAST of shorts", s, -12, (x, v) -> x.copyOf(1, v, 0), 0, 2);
        edge.leavesEach("7 CAST of ints, of no item", s, -12, (x, v) -> x.copyOf(3, v, 0), 0, 1);
        edge.leavesEach("7 CAST ahead of INDEX", s, -12, (x, v) -> x.copyOf(0, 1, v), -1, 3, MIN, MAX);
    }

    /** Of five items three are taken: from 2 on they are there, from 3 on they are not. */
    private static void copyOfIndex() {
        Scene s = Scene.PLAIN;
        edge.comesBack("7 from item 0", s, 3, x -> x.copyOf(0, 0, 0), 3, x -> x.burn(3));
        edge.leavesEach("7 from beyond", s, -13, (x, v) -> x.copyOf(0, 0, v), 3, 4, 5, 6, MAX, MAX - 2);
        edge.leavesEach("7 from below", s, -13, (x, v) -> x.copyOf(0, 0, v), -1, -3, MIN);
        edge.leavesEach("7 INDEX of no item", s, -13, (x, v) -> x.copyOf(3, 2, v), 0, 1, -1);
        CommaCopies x = s.make();
        x.item(0, 0, 2, 1);
        check.due("7 from item 2: the last ones", x.copyOf(0, 0, 2), -2);
        x.item(0, 0, 3, 2);
        check.due("7 from item 2", x.copyOf(0, 0, 2), 3);
        check.due("7 one a PLACE", x.choice(3, 0) * 100 + x.choice(3, 1) * 10 + x.choice(3, 2), 121);
    }

    /** INDEX also where no item is taken, if i is below 0, or above how many there are. */
    private static void copyOfNoItemTaken() {
        for (Scene s : new Scene[] {Scene.BARE, Scene.TWINS}) {
            int next = s == Scene.BARE ? 0 : 2;
            check.due("7 no item is taken, from the end", s.make().copyOf(0, 0, 5), next);
            check.due("7 no item is taken, from 0", s.make().copyOf(0, 0, 0), next);
            check.due("7 no item is taken, there is none", s.make().copyOf(3, 2, 0), next);
            edge.leavesEach("7 no item is taken, above", s, -13, (x, v) -> x.copyOf(0, 0, v), 6, 12, MAX);
            edge.leavesEach("7 no item is taken, below", s, -13, (x, v) -> x.copyOf(0, 0, v), -1, MIN);
            edge.leavesEach("7 there is none, above or below", s, -13, (x, v) -> x.copyOf(3, 2, v), 1, -1, MIN, MAX);
        }
    }

    /** Each PLACE has its own CHOICES: 2, 3, 4 of them. */
    private static void copyOfNoChoice() {
        int[] many = {2, 3, 4};
        for (int p = 0; p < 3; p++) {
            for (int v : new int[] {-1, many[p], 4, 5, MIN, MAX}) {
                CommaCopies x = Scene.PLAIN.make();
                x.sheet(2, 2, 3);
                x.item(2, 2, p, v);
                check.due("7 " + v + " is no CHOICE of PLACE " + p, x.copyOf(2, 2, 0), -2);
                check.due("7 NOT: none came", x.count(1), 3);
                x.item(2, 2, p, many[p] - 1);
                check.due("7 the last CHOICE of PLACE " + p, x.copyOf(2, 2, 0), 3);
                check.due("7 it has it", x.choice(3, p), many[p] - 1);
            }
        }
    }

    /** Items have a sign. */
    private static void copyOfSigns() {
        int[][] items = {{255, -2}, {128, -2}, {256, 3}, {-256, 3}, {65535, -2}, {32768, 3}, {MIN, 3}, {MAX, -2}};
        for (int lane = 0; lane < 3; lane++) {
            for (int[] row : items) {
                CommaCopies x = Scene.PLAIN.make();
                x.sheet(2, lane, 3);
                x.item(2, lane, 1, row[0]);
                int want = lane == 0 ? row[1] : (lane == 1 ? (short) row[0] : row[0]) == 0 ? 3 : -2;
                check.due("7 item " + row[0] + " of LANE " + lane, x.copyOf(2, lane, 0), want);
            }
        }
    }

    private static void copyOfFull() {
        CommaCopies x = Check.with("[a/b]");
        x.sheet(0, 0, 1);
        for (int c = 0; c < 8; c++) {
            check.due("7 COPY " + c, x.copyOf(0, 0, 0), c);
        }
        check.due("7 FULL", x.copyOf(0, 0, 0), -3);
        check.due("7 FULL: none came", x.count(1), 8);
        check.due("7 INDEX ahead of FULL", x.copyOf(0, 0, 1), -13);
        check.due("7 CAST ahead of FULL", x.copyOf(0, 1, 0), -12);
        check.due("7 NULL ahead of FULL", x.copyOf(1, 0, 0), -11);
        check.due("7 BAD ahead of FULL", x.copyOf(4, 0, 0), -1);
        x.item(0, 0, 0, 2);
        check.due("7 NOT ahead of FULL", x.copyOf(0, 0, 0), -2);
        x.item(0, 0, 0, 1);
        x.burn(3);
        check.due("7 room for one", x.copyOf(0, 0, 0), 7);
        check.due("7 FULL again", x.copyOf(0, 0, 0), -3);
    }

    private static void choiceBounds() {
        Scene s = Scene.PLAIN;
        edge.leaves("8 the first", s, 0, x -> x.choice(0, 0));
        edge.leaves("8 the last", s, 3, x -> x.choice(2, 2));
        edge.leavesEach("8 no such COPY", s, -1, (x, v) -> x.choice(v, 0), -1, 3, 7, 8, MIN, MAX);
        edge.leavesEach("8 no such PLACE", s, -1, (x, v) -> x.choice(0, v), -1, 3, 5, 6, MIN, MAX);
        edge.leavesEach("8 no ninth COPY", Scene.BRIM, -1, (x, v) -> x.choice(v, 0), 8, -1, MIN, MAX);
        edge.leavesEach("8 no seventh PLACE", Scene.BRIM, -1, (x, v) -> x.choice(0, v), 6, -1, MIN, MAX);
    }

    private static void burnBounds() {
        edge.leavesEach("9 no such COPY", Scene.PLAIN, -1, (x, v) -> x.burn(v), -1, 3, 7, MIN, MAX);
        edge.leavesEach("9 no ninth COPY", Scene.BRIM, -1, (x, v) -> x.burn(v), 8, -1, MIN, MAX);
    }

    /** Those behind it go one down, those ahead of it stay. */
    private static void burnEnds() {
        for (int gone = 0; gone < 8; gone++) {
            CommaCopies x = Check.with("[a/b/c/d][a/b]");
            for (int c = 0; c < 8; c++) {
                Check.copy(x, c / 2, c % 2);
            }
            check.due("9 seven are left", x.burn(gone), 7);
            for (int c = 0; c < 7; c++) {
                check.due("9 COPY " + c + " without " + gone, x.choice(c, 0) * 2 + x.choice(c, 1), c < gone ? c : c + 1);
            }
            check.due("9 no eighth", x.choice(7, 0), -1);
            for (int left = 6; left >= 0; left--) {
                check.due("9 fewer", x.burn(left / 2), left);
            }
            check.due("9 none is left", x.burn(0), -1);
        }
    }

    private static void readsBounds() {
        Scene s = Scene.PLAIN;
        edge.leaves("10 byte 0", s, 'G', x -> x.reads(2, 0));
        edge.leaves("10 the last byte", s, '!', x -> x.reads(2, 14));
        edge.leavesEach("10 behind the last byte", s, -4, (x, v) -> x.reads(2, v), 15, 120, MAX);
        edge.leavesEach("10 i below 0", s, -1, (x, v) -> x.reads(2, v), -1, MIN);
        edge.leavesEach("10 no such COPY", s, -1, (x, v) -> x.reads(v, 0), -1, 3, 8, MIN, MAX);
        edge.leavesEach("10 no such COPY: BAD ahead of NONE", s, -1, (x, v) -> x.reads(v, MAX), -1, 3, MIN, MAX);
        check.due("10 a CHOICE of no byte", Check.readsAll(s.make(), 0).equals("Goa-e!") ? 1 : 0, 1);
        check.due("10 a CHOICE of 8 bytes", Check.readsAll(s.make(), 2).equals("Goa-dd12345678!") ? 1 : 0, 1);
        CommaCopies x = new CommaCopies();
        Check.letter(x, "y".repeat(120));
        Check.copy(x);
        check.due("10 byte 119", x.reads(0, 119), 'y');
        check.due("10 byte 120", x.reads(0, 120), -4);
    }

    private static void readsNothing() {
        CommaCopies x = Check.with("[/a][//b][c/]", Check.row(0, 1, 1), Check.row(0, 0, 0));
        check.due("10 no byte at all", x.reads(0, 0), -4);
        check.due("10 no byte at all, below", x.reads(0, -1), -1);
        check.due("10 one byte", x.reads(1, 0), 'c');
        check.due("10 behind one byte", x.reads(1, 1), -4);
    }

    private static void costOfBounds() {
        Scene s = Scene.PLAIN;
        edge.leaves("11 the first", s, 3, x -> x.costOf(0));
        edge.leaves("11 the last", s, 16, x -> x.costOf(2));
        edge.leavesEach("11 no such COPY", s, -1, (x, v) -> x.costOf(v), -1, 3, 8, MIN, MAX);
        edge.leavesEach("11 no ninth COPY", Scene.BRIM, -1, (x, v) -> x.costOf(v), 8, -1, MIN, MAX);
    }

    private static void setBounds() {
        Scene s = Scene.PLAIN;
        edge.comesBack("12 N 1", s, 2, x -> x.set(0, 1), 1, x -> x.set(0, 2));
        edge.comesBack("12 N 3", s, 2, x -> x.set(0, 3), 3, x -> x.set(0, 2));
        edge.comesBack("12 HOW 0", s, 2, x -> x.set(1, 0), 0, x -> x.set(1, 2));
        edge.comesBack("12 HOW 1", s, 2, x -> x.set(1, 1), 1, x -> x.set(1, 2));
        edge.leavesEach("12 no such N", s, -1, (x, v) -> x.set(0, v), 0, 4, -1, MIN, MAX);
        edge.leavesEach("12 no such HOW", s, -1, (x, v) -> x.set(1, v), -1, 3, MIN, MAX);
        edge.leavesEach("12 no such thing", s, -1, (x, v) -> x.set(v, 1), -1, 2, MIN, MAX);
        edge.leavesEach("12 without a LETTER", Scene.BLANK, -1, (x, v) -> x.set(0, v), 0, 4, MIN, MAX);
    }

    private static void countBounds() {
        Scene s = Scene.PLAIN;
        int[] counts = {3, 3, 2, 33, 2, 1};
        for (int what = 0; what < 6; what++) {
            int w = what;
            edge.leaves("13 of " + what, s, counts[what], x -> x.count(w));
        }
        edge.leavesEach("13 no such thing", s, -1, (x, v) -> x.count(v), -1, 6, MIN, MAX);
        edge.leavesEach("13 no such thing, no LETTER", Scene.NEW, -1, (x, v) -> x.count(v), -1, 6, MIN, MAX);
    }

    private static void countLostAndLeftOut() {
        CommaCopies x = Scene.BRIM.make();
        for (int p = 0; p < 6; p++) {
            check.due("13 LOST ahead", x.count(5), 6 - p);
            x.print(p, p % 2 == 0 ? 4 : 3);
        }
        check.due("13 none is LOST", x.count(5), 0);
    }
}
