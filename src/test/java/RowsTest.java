/** Promises 1 to 5 and 37: ROWS and what they find. */
public final class RowsTest {
    private static final int BAD = -1000001, NULL = -1000011, PLACE = -1000012, SIZE = -1000014, STORE = -1000015;
    private static final Check check = new Check("RowsTest");

    public static void main(String[] args) {
        aNewObject();
        laying();
        setting();
        copying();
        dropping();
        status();
        check.finish();
    }

    private static void aNewObject() {
        HandsInBook x = new HandsInBook();
        for (int what = 0; what <= 6; what++) {
            check.due("new: count(" + what + ")", x.count(what), 0);
        }
        check.due("new: status", x.status(), 0);
        check.due("new: fault", x.fault(), 0);
        check.due("new: trace(0)", x.trace(0), -1000000);
        check.due("new: whole(0)", x.whole(0), -1000002);
        for (int row = 0; row < 8; row++) {
            check.due("new: row is missing", x.drop(row), NULL);
        }
        check.due("new: status behind that", x.status(), 1);
    }

    private static void laying() {
        HandsInBook x = new HandsInBook();
        for (int row = 0; row < 8; row++) {
            check.due("row", x.row(row, row % 3, 5 * row), 5 * row);
        }
        check.due("rows that are laid", x.count(0), 8);
        check.due("40 items", x.row(0, 0, 40), 40);
        check.due("last of 40", x.set(0, 39, 7), 7);
        check.due("none", x.row(0, 0, 0), 0);
        check.due("a row of none is no missing one", x.set(0, 0, 7), PLACE);
        check.due("41", x.row(1, 0, 41), BAD);
        check.due("greatest", x.row(1, 0, Integer.MAX_VALUE), BAD);
        check.due("row -1", x.row(-1, 0, 1), BAD);
        check.due("row 8", x.row(8, 0, 1), BAD);
        check.due("lane -1", x.row(1, -1, 1), BAD);
        check.due("lane 3", x.row(1, 3, 1), BAD);
        check.due("BAD ahead of SIZE", x.row(8, 0, -1), BAD);
        check.due("BAD lane ahead of SIZE", x.row(1, 3, -1), BAD);
        check.due("SIZE", x.row(1, 0, -1), SIZE);
        check.due("SIZE, least", x.row(1, 0, Integer.MIN_VALUE), SIZE);
        check.due("status", x.status(), 4);
        check.due("what was found changes nothing", x.drop(1), 5);
        check.due("laid anew", x.row(2, 2, 3), 3);
        check.due("an int", x.set(2, 2, 70000), 70000);
        check.due("in place of what is there", x.row(2, 2, 3), 3);
        Check.feed(x, "h0,0;p0,0,0;");
        x.book();
        check.due("items are 0 at first", x.who(0, 0, 2, 2, 1), 61);
        check.due("a wider row has 0 behind", x.row(2, 2, 9) + x.who(0, 0, 2, 8, 1), 9 + 61);
    }

    private static void setting() {
        HandsInBook x = new HandsInBook();
        x.row(0, 0, 2);
        x.row(1, 1, 2);
        x.row(2, 2, 2);
        check.due("byte 127", x.set(0, 0, 127), 127);
        check.due("byte 128", x.set(0, 0, 128), -128);
        check.due("byte 255", x.set(0, 0, 255), -1);
        check.due("byte 256", x.set(0, 0, 256), 0);
        check.due("byte -129", x.set(0, 0, -129), 127);
        check.due("short 32767", x.set(1, 1, 32767), 32767);
        check.due("short 32768", x.set(1, 1, 32768), -32768);
        check.due("short 65536 and 9", x.set(1, 1, 65545), 9);
        check.due("int, greatest", x.set(2, 0, Integer.MAX_VALUE), Integer.MAX_VALUE);
        check.due("int, least", x.set(2, 0, Integer.MIN_VALUE), Integer.MIN_VALUE);
        check.due("row 8", x.set(8, 0, 0), BAD);
        check.due("row -1", x.set(-1, 0, 0), BAD);
        check.due("missing", x.set(3, 0, 0), NULL);
        check.due("missing ahead of place", x.set(3, -1, 0), NULL);
        check.due("place 2", x.set(0, 2, 0), PLACE);
        check.due("place -1", x.set(0, -1, 0), PLACE);
        check.due("place, greatest", x.set(0, Integer.MAX_VALUE, 0), PLACE);
        check.due("status", x.status(), 2);
    }

    private static void copying() {
        HandsInBook x = new HandsInBook();
        x.row(0, 2, 5);
        for (int i = 0; i < 5; i++) {
            x.set(0, i, i + 1);
        }
        check.due("onto itself, forth", x.copy(0, 0, 0, 1, 4), 4);
        items(x, 0, 1, 1, 2, 3, 4);
        check.due("onto itself, back", x.copy(0, 1, 0, 0, 4), 4);
        items(x, 0, 1, 2, 3, 4, 4);
        x.row(1, 2, 3);
        check.due("into another", x.copy(0, 2, 1, 1, 2), 2);
        items(x, 1, 0, 3, 4);
        check.due("none, at both ends", x.copy(0, 5, 1, 3, 0), 0);
        check.due("none, beyond the end", x.copy(0, 6, 1, 0, 0), PLACE);
        check.due("none, beyond the other end", x.copy(0, 0, 1, 4, 0), PLACE);
        check.due("beyond the end", x.copy(0, 4, 1, 0, 2), PLACE);
        check.due("beyond the other end", x.copy(0, 0, 1, 2, 2), PLACE);
        check.due("i below 0", x.copy(0, -1, 1, 0, 1), PLACE);
        check.due("j below 0", x.copy(0, 0, 1, -1, 1), PLACE);
        check.due("n below 0", x.copy(0, 0, 1, 0, -1), PLACE);
        check.due("greatest", x.copy(0, Integer.MAX_VALUE, 1, Integer.MAX_VALUE, Integer.MAX_VALUE), PLACE);
        check.due("least", x.copy(0, 1, 1, 1, Integer.MIN_VALUE), PLACE);
        items(x, 1, 0, 3, 4);
        check.due("row 8", x.copy(8, 0, 1, 0, 1), BAD);
        check.due("other row 8", x.copy(1, 0, 8, 0, 1), BAD);
        check.due("row -1", x.copy(-1, 0, 7, 0, 1), BAD);
        check.due("one is missing", x.copy(7, 0, 0, 0, 1), NULL);
        check.due("the other is missing", x.copy(0, 0, 7, 0, 1), NULL);
        x.row(2, 1, 3);
        check.due("two lanes", x.copy(0, 0, 2, 0, 1), STORE);
        check.due("status", x.status(), 5);
        check.due("two lanes ahead of place", x.copy(0, -1, 2, 0, 1), STORE);
        check.due("two lanes, none of them", x.copy(0, 0, 2, 0, 0), STORE);
        check.due("missing ahead of two lanes", x.copy(7, 0, 2, 0, 1), NULL);
    }

    /** Each ITEM is laid behind 0, 1, ..: by who() that tells HANDS of a BOOK whose PAGES all lie far APART. */
    private static void items(HandsInBook x, int row, int... want) {
        Check.feed(x, "h0,0;p0,0,0;p30,0,0;p0,30,0;p0,0,30;p30,30,0;");
        x.book();
        x.row(5, 2, 5);
        for (int i = 0; i < want.length; i++) {
            for (int k = 0; k < want[i]; k++) {
                x.set(5, k, k);
            }
            x.copy(row, i, 5, want[i], 1);
            check.due("item " + i + " of row " + row + " is " + want[i], x.who(0, 1, 5, 0, want[i] + 1), 0);
        }
    }

    private static void dropping() {
        HandsInBook x = new HandsInBook();
        x.row(3, 1, 17);
        x.row(4, 1, 0);
        check.due("drop", x.drop(3), 17);
        check.due("drop a row of none", x.drop(4), 0);
        check.due("rows left", x.count(0), 0);
        check.due("drop again", x.drop(3), NULL);
        check.due("drop 8", x.drop(8), BAD);
        check.due("drop -1", x.drop(-1), BAD);
        check.due("set behind drop", x.set(3, 0, 0), NULL);
    }

    private static void status() {
        HandsInBook x = Check.told("h0,0;p0,0,0;");
        x.drop(0);
        check.due("NULL", x.status(), 1);
        x.row(9, 0, 0);
        check.due("BAD leaves it", x.status(), 1);
        x.set(9, 0, 0);
        x.copy(9, 0, 0, 0, 0);
        x.drop(9);
        x.who(0, 6, 0, 0, 1);
        x.as(0, 6);
        check.due("BAD leaves it, by any call", x.status(), 1);
        x.take(0);
        x.feed(999);
        x.count(0);
        check.due("calls without a ROW leave it", x.status(), 1);
        x.row(0, 0, 1);
        check.due("row that has none", x.status(), 0);
        x.set(0, 1, 0);
        check.due("PLACE", x.status(), 2);
        x.set(0, 0, 0);
        check.due("set that has none", x.status(), 0);
        x.as(0, 2);
        check.due("KIND", x.status(), 3);
        x.as(0, 1);
        check.due("as that has none", x.status(), 0);
        x.row(0, 0, -1);
        check.due("SIZE", x.status(), 4);
        x.copy(0, 0, 0, 0, 1);
        check.due("copy that has none", x.status(), 0);
        x.who(0, 0, 0, 1, 1);
        check.due("PLACE of who", x.status(), 2);
        x.who(0, 0, 0, 0, 1);
        check.due("who that has none", x.status(), 0);
        x.who(0, 0, 1, 0, 1);
        check.due("NULL of who", x.status(), 1);
        x.drop(0);
        check.due("drop that has none", x.status(), 0);
    }
}
