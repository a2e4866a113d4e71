/** Promises 32 to 36: KINDS, ASKS, THE TRACE, counts. */
public final class AsksTest {
    private static final int NONE = -1000000, BAD = -1000001, KIND = -1000013;
    private static final Check check = new Check("AsksTest");
    /** PAGES 0 and 1 lie far from all others, so that those are of HAND 2. */
    private static final String BOOK = "h20,0;p30,30,30;p0,30,0;f11,4,1;r12,4,1;c13,4,1;g14,4,1;";

    public static void main(String[] args) {
        kinds();
        taken();
        asks();
        traces();
        counts();
        check.finish();
    }

    private static void kinds() {
        check.due("no BOOK", new HandsInBook().kind(0), BAD);
        HandsInBook x = Check.told("h1,1;p1,1,1;f1,1,1;r1,1,1;c1,1,1;g1,1,1;");
        for (int page = 0; page < 5; page++) {
            check.due("kind of " + page, x.kind(page), page + 1);
        }
        check.due("kind of 5", x.kind(5), BAD);
        check.due("kind of -1", x.kind(-1), BAD);
        x.become(4, 1);
        check.due("kind then", x.kind(4), 1);
    }

    private static void taken() {
        check.due("no BOOK", new HandsInBook().as(0, 0), BAD);
        HandsInBook x = Check.told("h1,1;p1,1,1;f1,1,1;r1,1,1;c1,1,1;g1,1,1;");
        String[] is = {"01", "012", "013", "04", "045"};
        for (int page = 0; page < 5; page++) {
            for (int kind = 0; kind <= 5; kind++) {
                boolean such = is[page].indexOf('0' + kind) >= 0;
                check.due("page " + page + " as " + kind, x.as(page, kind), such ? page : KIND);
                check.due("status", x.status(), such ? 0 : 3);
            }
        }
        check.due("kind 6", x.as(0, 6), BAD);
        check.due("kind -1", x.as(0, -1), BAD);
        check.due("page 5", x.as(5, 0), BAD);
        check.due("page -1", x.as(-1, 0), BAD);
    }

    private static void asked(HandsInBook x, int page, int what, int want, String trace) {
        check.due("ask(" + page + ", " + what + ")", x.ask(page, what), want);
        check.holds("trace of ask(" + page + ", " + what + "): " + Check.traced(x) + " is to be " + trace,
                Check.traced(x).equals(trace));
    }

    private static void asks() {
        HandsInBook x = Check.told(BOOK);
        int[] hands = {0, 1, 2, 2, 2, 2};
        for (int page = 0; page < 6; page++) {
            check.due("hand of " + page, x.page(page, 4), hands[page]);
        }
        asked(x, 0, 0, 30, "11 10 21 20");
        asked(x, 0, 1, 0, "21 20");
        asked(x, 1, 0, 2, "11 10 21 20");
        asked(x, 1, 1, 2, "21 20");
        asked(x, 2, 0, -(11 + 2 * (2 + 2)), "12 11 10 24 21 20");
        asked(x, 2, 1, 2 * (2 + 2), "24 21 20");
        asked(x, 3, 0, 12 + 3 + 2 - 1000, "11 10 22 21 20");
        asked(x, 3, 1, 3 + 2 - 1000, "22 21 20");
        asked(x, 4, 0, 13 - 100, "13 10");
        asked(x, 4, 1, 4 - (13 - 100), "23 20 13 10");
        asked(x, 5, 0, 2 * (14 - 100), "14 13 10");
        asked(x, 5, 1, 5 - 2 * (14 - 100), "23 20 14 13 10");
    }

    private static void traces() {
        HandsInBook x = Check.told(BOOK);
        check.due("empty at first", x.trace(0), NONE);
        x.ask(2, 0);
        check.due("trace 5", x.trace(5), 20);
        check.due("trace 6", x.trace(6), NONE);
        check.due("trace -1", x.trace(-1), NONE);
        check.due("trace, greatest", x.trace(Integer.MAX_VALUE), NONE);
        check.due("ask 2", x.ask(0, 2), BAD);
        check.due("ask -1", x.ask(0, -1), BAD);
        check.due("page 6", x.ask(6, 0), BAD);
        check.due("page -1", x.ask(-1, 0), BAD);
        check.holds("stays where it is refused", Check.traced(x).equals("12 11 10 24 21 20"));
        x.ask(4, 0);
        check.holds("empty ahead of the next", Check.traced(x).equals("13 10"));
        check.due("no BOOK", new HandsInBook().ask(0, 0), BAD);
    }

    private static void counts() {
        HandsInBook x = Check.told(BOOK);
        x.row(0, 0, 0);
        x.row(7, 2, 40);
        x.law(0, 1);
        Check.feed(x, "abc");
        int[] want = {2, 6, 30 + 11 + 12 + 13 + 14, 30 + 30 + 16, 30 + 4, 1, 3};
        for (int what = 0; what <= 6; what++) {
            check.due("count(" + what + ")", x.count(what), want[what]);
        }
        check.due("count(7)", x.count(7), BAD);
        check.due("count(-1)", x.count(-1), BAD);
        check.due("no BOOK, count(7)", new HandsInBook().count(7), BAD);
        x.take(0);
        check.due("slants then", x.count(2), 50);
        check.due("pages then", x.count(1), 5);
    }
}
