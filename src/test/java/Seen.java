/** All that further calls tell of an object, in parts, as an object stands for 512 calls alone. They use it up. */
enum Seen {
    STATE, TEXT, IMAGE, TAPE, SHEETS;

    String of(CommaCopies x) {
        StringBuilder told = new StringBuilder(name());
        switch (this) {
            case STATE -> state(x, told);
            case TEXT -> text(x, told);
            case IMAGE -> {
                tell(told, " restore", x.restore());
                state(x, told);
            }
            case TAPE -> tape(x, told);
            case SHEETS -> sheets(x, told);
        }
        return told.toString();
    }

    private static void tell(StringBuilder told, String what, int answer) {
        told.append(what).append(' ').append(answer);
    }

    private static void state(CommaCopies x, StringBuilder told) {
        for (int what = 0; what < 6; what++) {
            tell(told, " count", x.count(what));
        }
        int n = x.set(0, 1);
        int how = x.set(1, 0);
        tell(told, " N", n);
        tell(told, " HOW", how);
        x.set(0, n);
        x.set(1, how);
        for (int p = 0; p < x.count(0); p++) {
            place(x, p, told);
        }
        for (int c = 0; c < x.count(1); c++) {
            for (int p = 0; p < x.count(0); p++) {
                tell(told, " choice", x.choice(c, p));
            }
            tell(told, " sure", x.past(c, 0));
            tell(told, " may be", x.past(c, 1));
        }
    }

    private static void place(CommaCopies x, int p, StringBuilder told) {
        int choices = x.choices(p);
        tell(told, " choices", choices);
        for (int c = 0; c < choices; c++) {
            int cost = x.cost(p, c, 0);
            tell(told, " cost", cost);
            x.cost(p, c, cost);
        }
        int mended = x.mended(p, -1);
        tell(told, " mended", mended);
        x.mended(p, mended);
        int print = x.print(p, 5);
        tell(told, " print", print);
        x.print(p, print);
    }

    private static void text(CommaCopies x, StringBuilder told) {
        for (int c = 0; c < 3; c++) {
            told.append(" reads ").append(Check.readsAll(x, c));
        }
    }

    private static void tape(CommaCopies x, StringBuilder told) {
        tell(told, " type", x.type('!', 1));
        tell(told, " letter", x.letter());
        tell(told, " bytes", x.count(3));
        x.sheet(0, 0, 6);
        int copy = x.copyOf(0, 0, 0);
        told.append(" reads ").append(Check.readsAll(x, copy));
    }

    /** An item is told by a copy with it at the only place; one that is no choice by the refusal. */
    private static void sheets(CommaCopies x, StringBuilder told) {
        x.letter();
        Check.letter(x, "[a/b/c/d]");
        for (int s = 0; s < 4; s++) {
            for (int lane = 0; lane < 3; lane++) {
                int first = x.copyOf(s, lane, 0);
                tell(told, " lane", first < 0 ? first : 0);
                if (first >= 0) {
                    x.burn(0);
                }
                if (first != -12 && first != -11) {
                    items(x, s, lane, told);
                }
            }
        }
    }

    private static void items(CommaCopies x, int s, int lane, StringBuilder told) {
        int answer = 0;
        for (int i = 0; i <= 12 && answer != -13; i++) {
            answer = x.copyOf(s, lane, i);
            tell(told, " item", answer < 0 ? answer : x.choice(0, 0));
            if (answer >= 0) {
                x.burn(0);
            }
        }
    }
}
