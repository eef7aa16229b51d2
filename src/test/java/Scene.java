/** States that boundary cases start from. */
enum Scene {
    /** A new object: no call has been made. */
    NEW,
    /** No LETTER, but SHEETS, N, HOW, and an IMAGE of other N, HOW. */
    BLANK,
    /** A LETTER of no PLACE, no COPY. */
    BARE,
    /** A LETTER of no PLACE, two COPIES. */
    TWINS,
    /** A LETTER of two PLACES, no COPY. */
    EMPTY,
    /** Three PLACES of 2, 3, 4 CHOICES, three COPIES, two PASTS, an IMAGE of another LETTER. */
    PLAIN,
    /** All that there may be: 120 bytes of THE LETTER and of THE TAPE, 6 PLACES, 8 COPIES, 6 PASTS, SHEETS of 12. */
    BRIM;

    private static final String TAPE = "x[y/zz]";
    private static final String BRIM_TAPE = "[y/zz]" + ".".repeat(114);
    private static final String BRIM_LETTER =
        "[12345678/23456789/34567890/45678901]" + "[a/b/c/d]".repeat(5) + "-".repeat(38);

    String tape() {
        return this == NEW ? "" : this == BRIM ? BRIM_TAPE : TAPE;
    }

    CommaCopies make() {
        return make(tape());
    }

    CommaCopies make(String tape) {
        CommaCopies x = new CommaCopies();
        switch (this) {
            case NEW -> { }
            case BLANK -> blank(x);
            case BARE -> bare(x);
            case TWINS -> twins(x);
            case EMPTY -> empty(x);
            case PLAIN -> plain(x);
            case BRIM -> brim(x);
        }
        Check.type(x, tape);
        return x;
    }

    private static void blank(CommaCopies x) {
        x.set(0, 1);
        x.set(1, 1);
        x.image();
        x.set(0, 3);
        x.set(1, 2);
        sheets(x);
    }

    private static void bare(CommaCopies x) {
        Check.letter(x, "ab");
        sheets(x);
    }

    private static void twins(CommaCopies x) {
        bare(x);
        x.copyOf(3, 2, 0);
        x.copyOf(3, 2, 0);
    }

    private static void empty(CommaCopies x) {
        Check.letter(x, "x[a/b]y[c/d/e]z");
        x.cost(0, 1, 5);
        x.mended(1, 2);
        x.set(0, 1);
        x.set(1, 1);
        x.keep();
        Check.print(x, 1, 4);
        sheets(x);
    }

    private static void plain(CommaCopies x) {
        Check.letter(x, "[p/q]");
        Check.copy(x, 1);
        x.print(0, 1);
        x.set(0, 1);
        x.set(1, 1);
        x.keep();
        x.image();
        Check.letter(x, "Go[a/bb]-[/c/dd][e/f/g/12345678]!");
        Check.copies(x, Check.row(0, 0, 0), Check.row(1, 1, 1), Check.row(0, 2, 3));
        x.cost(0, 0, 3);
        x.cost(0, 1, 1);
        x.cost(1, 2, 9);
        x.cost(2, 3, 4);
        x.mended(1, 1);
        x.set(1, 0);
        Check.print(x, 1, 1, 1);
        x.keep();
        x.set(0, 2);
        x.set(1, 2);
        Check.print(x, 4, 5, 5);
        x.keep();
        Check.print(x, 1, 4, 5);
        sheets(x);
    }

    /** Copies 0 to 5 have one choice at the place of their number that nobody else has; 6 has 0, 7 has 3 everywhere. */
    private static void brim(CommaCopies x) {
        Check.letter(x, BRIM_LETTER);
        for (int c = 0; c < 8; c++) {
            int[] row = new int[6];
            for (int p = 0; p < 6; p++) {
                row[p] = c == 7 ? 3 : c == p ? 1 + c % 2 : 0;
            }
            Check.copy(x, row);
        }
        for (int p = 0; p < 6; p++) {
            for (int c = 0; c < 4; c++) {
                x.cost(p, c, 9);
            }
        }
        x.set(0, 3);
        for (int k = 0; k < 6; k++) {
            x.keep();
        }
        for (int s = 0; s < 4; s++) {
            x.sheet(s, s % 3, 12);
            for (int i = 0; i < 12; i++) {
                x.item(s, s % 3, i, i % 4);
            }
        }
    }

    /** Sheet 0: five bytes, 1: five shorts, 2: nothing, 3: no ints. */
    private static void sheets(CommaCopies x) {
        int[][] items = {{0, 1, 2, 3, 1}, {3, 0, 1, 0, 2}};
        for (int s = 0; s < 2; s++) {
            x.sheet(s, s, 5);
            for (int i = 0; i < 5; i++) {
                x.item(s, s, i, items[s][i]);
            }
        }
        x.sheet(3, 2, 0);
    }
}
