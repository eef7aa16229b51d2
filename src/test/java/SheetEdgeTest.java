/** Boundary sentences of promises 34 to 37 and of SHEETS and LANES, each in a method of its own. */
public final class SheetEdgeTest {
    private static final Edge edge = new Edge();
    private static final Check check = edge.check;
    private static final int MIN = Edge.MIN;
    private static final int MAX = Edge.MAX;

    public static void main(String[] args) {
        sheetBounds();
        sheetSize();
        sheetIsNew();
        sheetNoItem();
        dropBounds();
        dropCounts();
        itemBounds();
        itemIndex();
        itemOrder();
        itemLowestBits();
        copyBounds();
        copyNull();
        copyCast();
        copyIndex();
        copyNoItemTaken();
        copyFarNumbers();
        copyTakenAhead();
        copyToTheEnds();
        copyKeepsSigns();
        edge.end();
    }

    private static void sheetBounds() {
        for (Scene s : new Scene[] {Scene.NEW, Scene.PLAIN, Scene.BRIM}) {
            edge.leavesEach("34 no such SHEET", s, -1, (x, v) -> x.sheet(v, 0, 1), -1, 4, MIN, MAX);
            edge.leavesEach("34 no such LANE", s, -1, (x, v) -> x.sheet(0, v, 1), -1, 3, MIN, MAX);
            edge.leavesEach("34 n above 12", s, -1, (x, v) -> x.sheet(0, 0, v), 13, 14, MAX);
        }
        for (int sheet = 0; sheet < 4; sheet++) {
            for (int lane = 0; lane < 3; lane++) {
                CommaCopies x = new CommaCopies();
                check.due("34 no item", x.sheet(sheet, lane, 0), 0);
                check.due("34 twelve items", x.sheet(sheet, lane, 12), 12);
                check.due("34 the last item", x.item(sheet, lane, 11, 1), 1);
                check.due("35 twelve", x.drop(sheet), 12);
            }
        }
    }

    /** SIZE: n below 0; BAD ahead of it; the SHEET stays. */
    private static void sheetSize() {
        for (Scene s : new Scene[] {Scene.NEW, Scene.PLAIN, Scene.BRIM}) {
            edge.leavesEach("34 SIZE", s, -14, (x, v) -> x.sheet(0, 0, v), -1, -12, MIN);
            edge.leavesEach("34 SIZE of another LANE", s, -14, (x, v) -> x.sheet(0, 2, v), -1, MIN);
            edge.leavesEach("34 SHEET: BAD ahead of SIZE", s, -1, (x, v) -> x.sheet(v, 0, -1), -1, 4, MIN, MAX);
            edge.leavesEach("34 LANE: BAD ahead of SIZE", s, -1, (x, v) -> x.sheet(0, v, -1), -1, 3, MIN, MAX);
        }
    }

    /** A new row has nothing of the older one. */
    private static void sheetIsNew() {
        CommaCopies x = Check.with("[a/b/c/d]");
        for (int lane = 0; lane < 3; lane++) {
            x.sheet(1, lane, 12);
            for (int i = 0; i < 12; i++) {
                x.item(1, lane, i, 3);
            }
            check.due("34 fewer items", x.sheet(1, lane, 2), 2);
            check.due("34 no third", x.item(1, lane, 2, 1), -13);
            x.sheet(1, lane, 12);
            for (int i = 0; i < 12; i++) {
                check.due("34 item " + i + " can be taken", x.copyOf(1, lane, i), 0);
                check.due("34 item " + i + " is 0", x.choice(0, 0), 0);
                x.burn(0);
            }
        }
    }

    private static void sheetNoItem() {
        Scene s = Scene.PLAIN;
        edge.leavesEach("36 of no item", s, -13, (x, v) -> x.item(3, 2, v, 1), 0, 1, -1, MIN, MAX);
        edge.leaves("37 of no item to itself", s, 0, x -> x.copy(3, 0, 3, 0, 0));
        edge.leaves("37 one of no item", s, -13, x -> x.copy(3, 0, 3, 0, 1));
        edge.comesBack("35 of no item", s, 0, x -> x.drop(3), 0, x -> x.sheet(3, 2, 0));
    }

    private static void dropBounds() {
        for (Scene s : new Scene[] {Scene.NEW, Scene.PLAIN, Scene.BRIM}) {
            edge.leavesEach("35 no such SHEET", s, -1, (x, v) -> x.drop(v), -1, 4, MIN, MAX);
        }
        edge.leaves("35 NULL", Scene.PLAIN, -11, x -> x.drop(2));
        edge.leaves("35 NULL behind a drop", Scene.PLAIN, -11, x -> {
            x.sheet(2, 0, 3);
            x.drop(2);
            return x.drop(2);
        });
    }

    private static void dropCounts() {
        for (int n = 0; n <= 12; n++) {
            CommaCopies x = new CommaCopies();
            x.sheet(3, 1, n);
            check.due("35 " + n + " items", x.drop(3), n);
            check.due("35 nothing then", x.drop(3), -11);
            check.due("36 nothing then", x.item(3, 1, 0, 1), -11);
        }
    }

    private static void itemBounds() {
        Scene s = Scene.PLAIN;
        edge.leavesEach("36 no such SHEET", s, -1, (x, v) -> x.item(v, 0, 0, 1), -1, 4, MIN, MAX);
        edge.leavesEach("36 no such LANE", s, -1, (x, v) -> x.item(0, v, 0, 1), -1, 3, MIN, MAX);
        edge.leavesEach("36 no such LANE: BAD ahead of NULL", s, -1, (x, v) -> x.item(2, v, 0, 1), -1, 3, MIN, MAX);
        edge.leavesEach("36 NULL by each LANE", s, -11, (x, v) -> x.item(2, v, 0, 1), 0, 1, 2);
        edge.leavesEach("36 CAST of bytes", s, -12, (x, v) -> x.item(0, v, 0, 3), 1, 2);
        edge.leavesEach("36 CAST of shorts", s, -12, (x, v) -> x.item(1, v, 0, 0), 0, 2);
        edge.leavesEach("36 CAST of ints", s, -12, (x, v) -> x.item(3, v, 0, 0), 0, 1);
    }

    private static void itemIndex() {
        Scene s = Scene.PLAIN;
        edge.comesBack("36 item 0", s, 1, x -> x.item(0, 0, 0, 3), 1, x -> x.item(0, 0, 0, 0));
        edge.comesBack("36 the last item", s, 1, x -> x.item(0, 0, 4, 3), 1, x -> x.item(0, 0, 4, 1));
        edge.leavesEach("36 INDEX above", s, -13, (x, v) -> x.item(0, 0, v, 3), 5, 6, 11, 12, MAX);
        edge.leavesEach("36 INDEX below", s, -13, (x, v) -> x.item(1, 1, v, 3), -1, -5, MIN);
    }

    private static void itemOrder() {
        Scene s = Scene.PLAIN;
        edge.leavesEach("36 NULL ahead of INDEX", s, -11, (x, v) -> x.item(2, 0, v, 1), -1, 99, MIN, MAX);
        edge.leavesEach("36 CAST ahead of INDEX", s, -12, (x, v) -> x.item(0, 2, v, 1), -1, 5, MIN, MAX);
    }

    /** What an item is, told by the only place of four choices: -2 if it is none. */
    private static int taken(int lane, int v) {
        CommaCopies x = Check.with("[a/b/c/d]");
        x.sheet(0, lane, 1);
        check.due("36 " + v + " of LANE " + lane, x.item(0, lane, 0, v), 1);
        int answer = x.copyOf(0, lane, 0);
        return answer < 0 ? answer : x.choice(0, 0);
    }

    private static void itemLowestBits() {
        int[] values = {0, 3, 4, -1, 127, 128, 255, 256, 259, -256, -253, 32767, 32768, 65535, 65536, 65539, -65536,
            -65533, MIN, MIN + 3, MAX, 0x1000003};
        for (int v : values) {
            int[] kept = {(byte) v, (short) v, v};
            for (int lane = 0; lane < 3; lane++) {
                int want = kept[lane] >= 0 && kept[lane] <= 3 ? kept[lane] : -2;
                check.due("36 the lowest bits of " + v + " in LANE " + lane, taken(lane, v), want);
            }
        }
    }

    private static void copyBounds() {
        for (Scene s : new Scene[] {Scene.NEW, Scene.PLAIN, Scene.BRIM}) {
            edge.leavesEach("37 no SHEET from", s, -1, (x, v) -> x.copy(v, 0, 0, 0, 1), -1, 4, MIN, MAX);
            edge.leavesEach("37 no SHEET to", s, -1, (x, v) -> x.copy(0, 0, v, 0, 1), -1, 4, MIN, MAX);
            edge.leavesEach("37 no SHEET from, n below", s, -1, (x, v) -> x.copy(v, -1, 0, -1, -1), -1, 4);
        }
        edge.leaves("37 from: BAD ahead of NULL", Scene.PLAIN, -1, x -> x.copy(4, 0, 2, 0, 1));
        edge.leaves("37 to: BAD ahead of NULL", Scene.PLAIN, -1, x -> x.copy(2, 0, 4, 0, 1));
    }

    /** NULL (either). */
    private static void copyNull() {
        Scene s = Scene.PLAIN;
        edge.leaves("37 from nothing", s, -11, x -> x.copy(2, 0, 0, 0, 1));
        edge.leaves("37 to nothing", s, -11, x -> x.copy(0, 0, 2, 0, 1));
        edge.leaves("37 from nothing to itself", s, -11, x -> x.copy(2, 0, 2, 0, 0));
        edge.leaves("37 no item from nothing", s, -11, x -> x.copy(2, 0, 0, 0, 0));
        edge.leaves("37 no item to nothing", s, -11, x -> x.copy(0, 0, 2, 0, 0));
        edge.leavesEach("37 NULL ahead of INDEX", s, -11, (x, v) -> x.copy(0, v, 2, v, v), -1, 99, MIN, MAX);
    }

    private static void copyCast() {
        Scene s = Scene.PLAIN;
        edge.leaves("37 bytes to shorts", s, -12, x -> x.copy(0, 0, 1, 0, 1));
        edge.leaves("37 shorts to bytes", s, -12, x -> x.copy(1, 0, 0, 0, 1));
        edge.leaves("37 bytes to ints", s, -12, x -> x.copy(0, 0, 3, 0, 0));
        edge.leaves("37 ints to shorts", s, -12, x -> x.copy(3, 0, 1, 0, 0));
        edge.leavesEach("37 CAST ahead of INDEX", s, -12, (x, v) -> x.copy(0, v, 1, v, v), -1, 99, MIN, MAX);
    }

    /** Sheet 0 has five bytes, sheet 2 gets three. */
    private static CommaCopies two() {
        CommaCopies x = Scene.PLAIN.make("");
        x.letter();
        Check.letter(x, "[a/b/c/d]");
        x.sheet(2, 0, 3);
        return x;
    }

    private static String items(CommaCopies x, int sheet, int lane, int n) {
        StringBuilder told = new StringBuilder();
        for (int i = 0; i < n; i++) {
            int answer = x.copyOf(sheet, lane, i);
            told.append(answer < 0 ? answer : x.choice(answer, 0));
            x.burn(0);
        }
        return told.toString();
    }

    private static void copied(int i, int j, int n, int want, String left) {
        CommaCopies x = two();
        String what = "37 " + n + " from " + i + " to " + j;
        check.due(what, x.copy(0, i, 2, j, n), want);
        check.due(what + " leaves " + left, items(x, 2, 0, 3).equals(left) ? 1 : 0, 1);
        check.due(what + ": what it is from stays", items(x, 0, 0, 5).equals("01231") ? 1 : 0, 1);
    }

    private static void copyIndex() {
        copied(1, 0, 3, 3, "123");
        copied(2, 0, 3, 3, "231");
        copied(3, 0, 3, -13, "000");
        copied(0, 0, 4, -13, "000");
        copied(1, 1, 2, 2, "012");
        copied(1, 2, 2, -13, "000");
        copied(4, 2, 1, 1, "001");
        copied(5, 2, 1, -13, "000");
        copied(4, 3, 1, -13, "000");
        copied(-1, 0, 1, -13, "000");
        copied(0, -1, 1, -13, "000");
        copied(1, 0, -1, -13, "000");
        CommaCopies x = two();
        check.due("37 three of three to five", x.copy(2, 0, 0, 2, 3), 3);
        check.due("37 four of three", x.copy(2, 0, 0, 0, 4), -13);
        check.due("37 they came", items(x, 0, 0, 5).equals("01000") ? 1 : 0, 1);
    }

    /** INDEX also where no item is taken, if i, j is below 0, or above how many there are. */
    private static void copyNoItemTaken() {
        copied(5, 3, 0, 0, "000");
        copied(0, 0, 0, 0, "000");
        copied(6, 0, 0, -13, "000");
        copied(0, 4, 0, -13, "000");
        copied(-1, 0, 0, -13, "000");
        copied(0, -1, 0, -13, "000");
    }

    private static void copyFarNumbers() {
        for (int v : new int[] {MIN, MIN + 1, MAX, MAX - 1}) {
            copied(v, 0, 1, -13, "000");
            copied(0, v, 1, -13, "000");
            copied(0, 0, v, -13, "000");
            copied(1, 1, v, -13, "000");
            copied(v, v, v, -13, "000");
            copied(v, 0, 0, -13, "000");
            copied(0, v, 0, -13, "000");
        }
    }

    /** As if all were taken ahead, up and down, in each LANE. */
    private static void copyTakenAhead() {
        for (int lane = 0; lane < 3; lane++) {
            for (int i = 0; i <= 5; i++) {
                for (int j = 0; j <= 5; j++) {
                    overlapping(lane, i, j);
                }
            }
        }
    }

    private static void overlapping(int lane, int i, int j) {
        char[] due = "0123102".toCharArray();
        CommaCopies x = Check.with("[a/b/c/d]");
        x.sheet(1, lane, 7);
        for (int k = 0; k < 7; k++) {
            x.item(1, lane, k, due[k] - '0');
        }
        int n = 7 - Math.max(i, j);
        char[] ahead = due.clone();
        for (int k = 0; k < n; k++) {
            due[j + k] = ahead[i + k];
        }
        String what = "37 of itself from " + i + " to " + j;
        check.due(what, x.copy(1, i, 1, j, n), n);
        check.due(what + " comes to " + new String(due), items(x, 1, lane, 7).equals(new String(due)) ? 1 : 0, 1);
        check.due(what + ", one more", x.copy(1, i, 1, j, n + 1), -13);
    }

    private static void copyToTheEnds() {
        CommaCopies x = Check.with("[a/b/c/d]");
        x.sheet(0, 2, 12);
        x.sheet(3, 2, 12);
        for (int k = 0; k < 12; k++) {
            x.item(0, 2, k, k % 4);
        }
        check.due("37 all twelve", x.copy(0, 0, 3, 0, 12), 12);
        check.due("37 all twelve came", items(x, 3, 2, 12).equals("012301230123") ? 1 : 0, 1);
        check.due("37 the last to the first", x.copy(0, 11, 3, 0, 1), 1);
        check.due("37 the first to the last", x.copy(0, 0, 3, 11, 1), 1);
        check.due("37 both came", items(x, 3, 2, 12).equals("312301230120") ? 1 : 0, 1);
        check.due("37 thirteen", x.copy(0, 0, 3, 0, 13), -13);
    }

    private static void copyKeepsSigns() {
        CommaCopies x = Check.with("[a/b/c/d]");
        x.sheet(0, 1, 2);
        x.item(0, 1, 0, 256);
        x.item(0, 1, 1, 65536 + 2);
        x.sheet(1, 1, 2);
        check.due("37 shorts", x.copy(0, 0, 1, 0, 2), 2);
        check.due("37 256 stays 256", x.copyOf(1, 1, 0), -2);
        check.due("37 2 stays 2", x.copyOf(1, 1, 1), 0);
        check.due("37 2", x.choice(0, 0), 2);
    }
}
