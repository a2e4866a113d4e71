/** Promises 24 to 29: what is foretold, by which nothing changes. */
public final class ForetoldTest {
    private static final int NONE = -1000000, BAD = -1000001, STATE = -1000002, NULL = -1000011, PLACE = -1000012;
    private static final Check check = new Check("ForetoldTest");

    public static void main(String[] args) {
        without();
        least();
        pairs();
        who();
        whoRefuses();
        lost();
        drawn();
        nothingChanges();
        check.finish();
    }

    private static void without() {
        check.due("no BOOK", new HandsInBook().without(0), BAD);
        check.due("the only one", Check.told("h0,0;p0,0,0;").without(0), STATE);
        HandsInBook x = Check.told("h5,0;p0,0,0;p10,0,0;p5,0,0;p20,0,0;");
        check.due("hands", x.whole(0), 3);
        check.due("without 0", x.without(0), 2);
        check.due("without 1", x.without(1), 2);
        check.due("without 2", x.without(2), 3);
        check.due("without 3", x.without(3), 2);
        check.due("without 4", x.without(4), BAD);
        check.due("without -1", x.without(-1), BAD);
    }

    private static void least() {
        check.due("no BOOK", new HandsInBook().least(0), STATE);
        HandsInBook x = Check.told("h5,0;p0,0,0;p10,0,0;p5,0,0;p20,0,0;");
        int[] want = {20, 10, 5, 0, 0, 0, 0, 0, 0, 0};
        for (int v = 1; v <= 10; v++) {
            check.due("least " + v, x.least(v), want[v - 1]);
        }
        check.due("least 0", x.least(0), BAD);
        check.due("least 11", x.least(11), BAD);
        HandsInBook far = Check.told("h0,0;p0,0,0;p30,30,30;");
        check.due("beyond what LIMIT may be", far.least(1), 90);
        check.due("two forged ones", Check.told("h0,0;g0,0,0;g0,0,0;").least(1), 5);
    }

    private static void pairs() {
        check.due("no BOOK", new HandsInBook().pairs(0), BAD);
        HandsInBook x = Check.told("h5,0;p0,0,0;p10,0,0;p5,0,0;p20,0,0;");
        check.due("pairs 0", x.pairs(0), 4);
        check.due("pairs 1", x.pairs(1), 4);
        check.due("pairs 2", x.pairs(2), 3);
        check.due("pairs 3", x.pairs(3), 0);
        check.due("pairs 4", x.pairs(4), BAD);
        check.due("pairs -1", x.pairs(-1), BAD);
        x.law(0, 4);
        check.due("pairs 2 by 4", x.pairs(2), 0);
    }

    private static void tell(HandsInBook x, int row, int... hands) {
        x.row(row, 2, hands.length);
        for (int i = 0; i < hands.length; i++) {
            x.set(row, i, hands[i]);
        }
    }

    private static void who() {
        HandsInBook x = Check.told("h5,0;p0,0,0;p10,0,0;p5,0,0;p20,0,0;");
        tell(x, 0, 0, 1, 0, 2);
        check.due("limits 5 to 9", x.who(0, 0, 0, 0, 4), 5);
        check.due("the least", x.who(0, 1, 0, 0, 4), 5);
        check.due("of three pages", x.who(0, 0, 0, 0, 3), 5);
        check.due("of two pages", x.who(3, 0, 0, 0, 2), 10);
        check.due("of one page", x.who(3, 0, 0, 0, 1), 61);
        tell(x, 0, 9, 9, 0, 0, 0, 1);
        check.due("limits 10 to 19", x.who(0, 0, 0, 2, 4), 10);
        check.due("the least", x.who(0, 1, 0, 2, 4), 10);
        tell(x, 1, 0, 2, 1, 0);
        check.due("none", x.who(0, 0, 1, 0, 4), 0);
        check.due("the least of none", x.who(0, 1, 1, 0, 4), NONE);
        tell(x, 2, 0, 1, 0, 2);
        check.due("slants of 2", x.who(2, 3, 2, 0, 4), 0b111111);
        check.due("heights of 2", x.who(2, 4, 2, 0, 4), 1);
        check.due("widths of 2", x.who(2, 5, 2, 0, 4), 1);
        check.due("slants of 3", x.who(3, 3, 2, 0, 4), 0x7fff0000);
        check.due("kinds of 3", x.who(3, 2, 2, 0, 4), 62);
        check.due("kinds of 2", x.who(2, 2, 2, 0, 4), 62);
        x.measure(2, 1, 1);
        check.due("kinds of 2, one higher", x.who(2, 2, 2, 0, 4), (1 << 3) + (1 << 4));
        tell(x, 3, -1);
        check.due("no hand", x.who(0, 0, 3, 0, 1), 0);
        x.row(4, 0, 1);
        check.due("a byte", x.set(4, 0, 256) + x.who(0, 0, 4, 0, 1), 61);
    }

    private static void whoRefuses() {
        check.due("no BOOK", new HandsInBook().who(0, 0, 0, 0, 1), BAD);
        HandsInBook x = Check.told("h5,0;p0,0,0;p10,0,0;");
        tell(x, 0, 0, 1, 0);
        check.due("page 2, always", x.who(2, 0, 0, 0, 1), BAD);
        check.due("page -1, always", x.who(-1, 1, 0, 0, 1), BAD);
        check.due("which -1", x.who(0, -1, 0, 0, 1), BAD);
        check.due("which 6", x.who(0, 6, 0, 0, 1), BAD);
        check.due("row -1", x.who(0, 0, -1, 0, 1), BAD);
        check.due("row 8", x.who(0, 0, 8, 0, 1), BAD);
        check.due("n 0", x.who(0, 0, 0, 0, 0), BAD);
        check.due("n 3", x.who(0, 0, 0, 0, 3), BAD);
        check.due("n below 0", x.who(0, 0, 0, 0, -1), BAD);
        check.due("BAD ahead of NULL", x.who(0, 0, 1, 0, 3), BAD);
        check.due("NULL", x.who(0, 0, 1, 0, 1), NULL);
        check.due("NULL ahead of PLACE", x.who(0, 0, 1, -1, 1), NULL);
        check.due("place -1", x.who(0, 0, 0, -1, 1), PLACE);
        check.due("beyond the end", x.who(0, 0, 0, 2, 2), PLACE);
        check.due("far beyond", x.who(0, 0, 0, Integer.MAX_VALUE, 2), PLACE);
        check.due("up to the end", x.who(0, 1, 0, 0, 2), 0);
    }

    private static void fraction(HandsInBook x, int v, int p, long above, long below) {
        check.due("lost " + v + ", " + p + ", above", x.lost(v, p, 0), above);
        check.due("lost " + v + ", " + p + ", below", x.lost(v, p, 1), below);
    }

    private static void lost() {
        check.due("no BOOK", new HandsInBook().lost(-1, -1, -1), STATE);
        HandsInBook x = Check.told("h5,0;p0,0,0;p10,0,0;");
        fraction(x, 0, 0, 0, 1);
        fraction(x, 1, 0, 0, 1);
        fraction(x, 2, 0, 1, 1);
        fraction(x, 0, 10, 1, 1);
        fraction(x, 0, 3, 9, 100);
        fraction(x, 1, 3, 51, 100);
        fraction(x, 1, 5, 3, 4);
        fraction(x, 2, 5, 1, 1);
        fraction(x, 10, 1, 1, 1);
        HandsInBook three = Check.told("h5,0;p0,0,0;p10,0,0;p5,0,0;");
        // Two HANDS are wanted only if 0 and 1 are both left.
        fraction(three, 1, 4, 16, 25);
        fraction(three, 0, 4, 8, 125);
        HandsInBook ten = Check.told("h0,0;" + "g0,0,0;".repeat(10));
        fraction(ten, 0, 1, 1, 10000000000L);
        fraction(ten, 9, 1, 6513215599L, 10000000000L);
        fraction(ten, 9, 5, 1023, 1024);
        check.due("v -1", x.lost(-1, 0, 0), BAD);
        check.due("v 11", x.lost(11, 0, 0), BAD);
        check.due("p -1", x.lost(0, -1, 0), BAD);
        check.due("p 11", x.lost(0, 11, 0), BAD);
        check.due("what -1", x.lost(0, 0, -1), BAD);
        check.due("what 2", x.lost(0, 0, 2), BAD);
    }

    /** By hand: of seed 1 X is 16807, then 282475249; of 3 PAGES the SLANT of PAGE 1 is 14, then 19. */
    private static void drawn() {
        check.due("no BOOK", new HandsInBook().drawn(-1, 0, 9), STATE);
        HandsInBook x = Check.told("h5,0;p0,0,0;p0,0,0;p0,0,0;");
        check.due("page of 16807", 16807 % 3, 1);
        check.due("measure of 16807", 16807 / 16 % 3, 0);
        check.due("value of 16807", 16807 / 64 % 31, 14);
        check.due("page of 282475249", 282475249 % 3, 1);
        check.due("measure of 282475249", 282475249 / 16 % 3, 0);
        check.due("value of 282475249", 282475249 / 64 % 31, 19);
        check.due("none, hands", x.drawn(0, 1, 0), 0);
        check.due("none, spread", x.drawn(0, 1, 1), 0);
        check.due("one, hands", x.drawn(1, 1, 0), 2);
        check.due("one, spread", x.drawn(1, 1, 1), 14);
        check.due("two, hands", x.drawn(2, 1, 0), 4);
        check.due("two, spread", x.drawn(2, 1, 1), 19);
        check.due("n -1", x.drawn(-1, 1, 0), BAD);
        check.due("n 21", x.drawn(21, 1, 0), BAD);
        check.due("seed 0", x.drawn(1, 0, 0), BAD);
        check.due("seed 1000000", x.drawn(1, 1000000, 0), BAD);
        check.due("what -1", x.drawn(1, 1, -1), BAD);
        check.due("what 2", x.drawn(1, 1, 2), BAD);
        HandsInBook one = Check.told("h0,0;p0,0,0;");
        check.due("of one page", one.drawn(20, 999999, 0), 20);
        check.due("spread of one page", one.drawn(20, 999999, 1), 0);
    }

    private static void nothingChanges() {
        HandsInBook x = Check.told("h5,1;p0,0,0;f10,0,9;c5,0,3;g20,0,0;");
        x.law(0, 6);
        tell(x, 0, 0, 1, 0, 2);
        String state = Check.state(x);
        String written = Check.written(x);
        x.without(1);
        x.least(2);
        x.pairs(1);
        for (int which = 0; which <= 5; which++) {
            x.who(1, which, 0, 0, 4);
        }
        x.lost(1, 5, 0);
        x.drawn(20, 77, 0);
        check.holds("the BOOK stays", Check.state(x).equals(state));
        check.holds("what is WRITTEN stays", Check.written(x).equals(written));
        check.due("ACTS stay", x.count(5), 1);
    }
}
