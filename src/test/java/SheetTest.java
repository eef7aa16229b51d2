/** Promises 34 to 37: sheets. Items are seen through copies of a letter. */
public final class SheetTest {
    private static final Check check = new Check();

    public static void main(String[] args) {
        sheet();
        drop();
        item();
        lowestBits();
        copy();
        copyOverlapping();
        copyRefusals();
        check.end();
    }

    private static void sheet() {
        CommaCopies x = Check.with("[a/b/c/d]");
        check.due("34 none", x.sheet(0, 0, 0), 0);
        check.due("34 twelve", x.sheet(3, 2, 12), 12);
        check.due("34 thirteen", x.sheet(0, 0, 13), -1);
        check.due("34 below", x.sheet(0, 0, -1), -14);
        check.due("34 lowest", x.sheet(0, 0, Integer.MIN_VALUE), -14);
        check.due("34 sheet above, BAD ahead of SIZE", x.sheet(4, 0, -1), -1);
        check.due("34 sheet below", x.sheet(-1, 0, 1), -1);
        check.due("34 lane above", x.sheet(0, 3, 1), -1);
        check.due("34 lane below", x.sheet(0, -1, -1), -1);
        check.due("34 stayed", x.drop(0), 0);
        x.item(3, 2, 11, 3);
        check.due("34 a new row", x.sheet(3, 2, 12), 12);
        check.due("34 of zeros", x.copyOf(3, 2, 11), 0);
        check.due("34 zero", x.choice(0, 0), 0);
        x.item(3, 2, 0, 3);
        x.sheet(3, 2, 12);
        x.copyOf(3, 2, 0);
        check.due("34 zero at item 0, too", x.choice(1, 0), 0);
        check.due("34 another lane", x.sheet(3, 1, 2), 2);
        check.due("34 the older lane is gone", x.copyOf(3, 2, 0), -12);
    }

    private static void drop() {
        CommaCopies x = new CommaCopies();
        check.due("35 nothing", x.drop(2), -11);
        x.sheet(2, 1, 9);
        check.due("35 nine", x.drop(2), 9);
        check.due("35 again", x.drop(2), -11);
        check.due("35 above", x.drop(4), -1);
        check.due("35 below", x.drop(-1), -1);
        x.sheet(2, 1, 0);
        check.due("35 of no items", x.drop(2), 0);
    }

    private static void item() {
        CommaCopies x = Check.with("[a/b/c/d]");
        check.due("36 nothing", x.item(0, 0, -1, 1), -11);
        x.sheet(0, 1, 3);
        check.due("36 first", x.item(0, 1, 0, 1), 1);
        check.due("36 last", x.item(0, 1, 2, 3), 1);
        check.due("36 above", x.item(0, 1, 3, 1), -13);
        check.due("36 below", x.item(0, 1, -1, 1), -13);
        check.due("36 far", x.item(0, 1, Integer.MAX_VALUE, 1), -13);
        check.due("36 another lane, CAST ahead of INDEX", x.item(0, 2, 9, 1), -12);
        check.due("36 no lane", x.item(0, 3, 0, 1), -1);
        check.due("36 lane below, BAD ahead of NULL", x.item(1, -1, 0, 1), -1);
        check.due("36 no sheet", x.item(4, 0, 0, 1), -1);
        check.due("36 sheet below", x.item(-1, 0, 0, 1), -1);
        x.copyOf(0, 1, 0);
        x.copyOf(0, 1, 1);
        x.copyOf(0, 1, 2);
        check.due("36 items", x.choice(0, 0) * 100 + x.choice(1, 0) * 10 + x.choice(2, 0), 103);
    }

    private static int taken(int lane, int v) {
        CommaCopies x = Check.with("[a/b/c/d]");
        x.sheet(0, lane, 1);
        x.item(0, lane, 0, v);
        int answer = x.copyOf(0, lane, 0);
        return answer < 0 ? answer : x.choice(0, 0);
    }

    private static void lowestBits() {
        check.due("36 a byte", taken(0, 256 + 2), 2);
        check.due("36 a byte with a sign", taken(0, 255), -2);
        check.due("36 a byte, below", taken(0, -256 + 1), 1);
        check.due("36 a short", taken(1, 65536 + 2), 2);
        check.due("36 a short keeps 9 bits", taken(1, 256 + 2), -2);
        check.due("36 an int", taken(2, 65536 + 2), -2);
        check.due("36 an int, plain", taken(2, 3), 3);
    }

    private static CommaCopies filled(int sheet, int lane, int... items) {
        CommaCopies x = Check.with("[a/b/c/d][a/b/c/d][a/b/c/d][a/b/c/d][a/b/c/d]");
        fill(x, sheet, lane, items);
        return x;
    }

    private static void fill(CommaCopies x, int sheet, int lane, int... items) {
        x.sheet(sheet, lane, items.length);
        for (int k = 0; k < items.length; k++) {
            x.item(sheet, lane, k, items[k]);
        }
    }

    /** Five items of a sheet as one number. */
    private static int seen(CommaCopies x, int sheet, int lane) {
        int copy = x.copyOf(sheet, lane, 0);
        int number = 0;
        for (int p = 0; p < 5; p++) {
            number = number * 10 + x.choice(copy, p);
        }
        return number;
    }

    private static void copy() {
        CommaCopies x = filled(0, 1, 1, 2, 3, 0, 1);
        x.sheet(2, 1, 5);
        check.due("37 three", x.copy(0, 1, 2, 2, 3), 3);
        check.due("37 come", seen(x, 2, 1), 230);
        check.due("37 stay", seen(x, 0, 1), 12301);
        check.due("37 none at the ends", x.copy(0, 5, 2, 5, 0), 0);
        check.due("37 all", x.copy(0, 0, 2, 0, 5), 5);
        check.due("37 all came", seen(x, 2, 1), 12301);
        x.item(0, 1, 0, 3);
        check.due("37 rows of their own", seen(x, 2, 1), 12301);
    }

    private static void copyOverlapping() {
        CommaCopies x = filled(0, 0, 1, 2, 3, 0, 1);
        check.due("37 up", x.copy(0, 0, 0, 1, 4), 4);
        check.due("37 as if taken ahead", seen(x, 0, 0), 11230);
        check.due("37 down", x.copy(0, 2, 0, 0, 3), 3);
        check.due("37 down, too", seen(x, 0, 0), 23030);
    }

    private static void copyRefusals() {
        CommaCopies x = filled(0, 1, 1, 2, 3, 0, 1);
        check.due("37 from above, BAD ahead of NULL", x.copy(4, 0, 2, 0, 1), -1);
        check.due("37 from below", x.copy(-1, 0, 0, 0, 1), -1);
        check.due("37 to above", x.copy(0, 0, 4, 0, 1), -1);
        check.due("37 to below", x.copy(0, 0, -1, 0, 1), -1);
        check.due("37 to nothing", x.copy(0, 0, 2, 0, 1), -11);
        check.due("37 from nothing, NULL ahead of INDEX", x.copy(2, -1, 0, 0, 1), -11);
        x.sheet(2, 0, 5);
        check.due("37 unlike lanes, CAST ahead of INDEX", x.copy(0, 9, 2, 0, 1), -12);
        x.sheet(2, 1, 3);
        check.due("37 n below", x.copy(0, 0, 2, 0, -1), -13);
        check.due("37 i below", x.copy(0, -1, 2, 0, 1), -13);
        check.due("37 j below", x.copy(0, 0, 2, -1, 1), -13);
        check.due("37 too many from", x.copy(0, 3, 2, 0, 3), -13);
        check.due("37 too many to", x.copy(0, 0, 2, 1, 3), -13);
        check.due("37 none, i above", x.copy(0, 6, 2, 0, 0), -13);
        check.due("37 none, j above", x.copy(0, 0, 2, 4, 0), -13);
        check.due("37 none, i below", x.copy(0, -1, 2, 0, 0), -13);
        check.due("37 far", x.copy(0, 1, 2, 1, Integer.MAX_VALUE), -13);
        check.due("37 far i", x.copy(0, Integer.MAX_VALUE, 2, 0, 1), -13);
        check.due("37 nothing came", x.copy(2, 0, 0, 0, 3), 3);
        check.due("37 zeros", seen(x, 0, 1), 1);
    }
}
