/** Counts answers that are not as due, and helps to set a scene. */
final class Check {
    private int wrong = 0;

    void due(String call, long got, long want) {
        if (got != want) {
            wrong++;
            System.out.println(call + " answered " + got + ", due is " + want);
        }
    }

    void end() {
        System.out.println(wrong == 0 ? "as due" : wrong + " not as due");
        if (wrong != 0) {
            System.exit(1);
        }
    }

    static int type(CommaCopies x, String text) {
        int last = 0;
        for (int at = 0; at < text.length(); at += 8) {
            String part = text.substring(at, Math.min(text.length(), at + 8));
            last = x.type(word(part), part.length());
        }
        return last;
    }

    static long word(String part) {
        long w = 0;
        for (int k = 0; k < part.length(); k++) {
            w = w << 8 | part.charAt(k);
        }
        return w;
    }

    static int letter(CommaCopies x, String text) {
        type(x, text);
        return x.letter();
    }

    static int printed(CommaCopies x, String text) {
        type(x, text);
        return x.printed();
    }

    /** A COPY by sheet 3, which is nothing then. */
    static int copy(CommaCopies x, int... row) {
        x.sheet(3, 2, row.length);
        for (int k = 0; k < row.length; k++) {
            x.item(3, 2, k, row[k]);
        }
        int answer = x.copyOf(3, 2, 0);
        x.drop(3);
        return answer;
    }

    static void copies(CommaCopies x, int[]... rows) {
        for (int[] row : rows) {
            copy(x, row);
        }
    }

    static void print(CommaCopies x, int... values) {
        for (int p = 0; p < values.length; p++) {
            x.print(p, values[p]);
        }
    }

    static CommaCopies with(String letter, int[]... rows) {
        CommaCopies x = new CommaCopies();
        letter(x, letter);
        copies(x, rows);
        return x;
    }

    static int[] row(int... values) {
        return values;
    }

    static String readsAll(CommaCopies x, int copy) {
        StringBuilder text = new StringBuilder();
        int b = x.reads(copy, 0);
        for (int i = 1; b >= 0; i++) {
            text.append((char) b);
            b = x.reads(copy, i);
        }
        return text.toString();
    }
}
