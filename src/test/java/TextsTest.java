/** Promises 6, 7, 8 and 23: the tape, BOOKS that are read, FAULTS, WORDS that ask. */
public final class TextsTest {
    private static final int BAD = -1000001, STATE = -1000002, FULL = -1000003, NONE = -1000000;
    private static final Check check = new Check("TextsTest");

    public static void main(String[] args) {
        feeding();
        reading();
        faults();
        faultsLeaveTheRest();
        words();
        check.finish();
    }

    private static void feeding() {
        HandsInBook x = new HandsInBook();
        check.due("feed -1", x.feed(-1), BAD);
        check.due("feed 256", x.feed(256), BAD);
        for (int i = 1; i <= 130; i++) {
            check.due("feed " + i, x.feed(i % 2 == 0 ? 0 : 255), i);
        }
        check.due("feed 131", x.feed(97), FULL);
        check.due("BAD ahead of FULL", x.feed(256), BAD);
        check.due("bytes", x.count(6), 130);
        x.book();
        check.due("bytes behind book", x.count(6), 0);
        check.due("feed then", x.feed(97), 1);
    }

    private static void reading() {
        reads("h0,0;p0,0,0;", "0/0 1,0,0,0");
        reads("h60,20;p30,30,30;f1,2,3;r4,5,6;c7,8,9;g10,11,12;",
                "60/20 1,30,30,30 2,1,2,3 3,4,5,6 4,7,8,9 5,10,11,12");
        reads("h05,00;g00,09,30;", "5/0 5,0,9,30");
        reads("h1,2;" + "c1,2,3;".repeat(10), "1/2" + " 4,1,2,3".repeat(10));
        HandsInBook x = Check.told("h1,2;p1,2,3;p1,2,3;");
        Check.feed(x, "h3,4;f5,6,7;");
        check.due("in place of the one before", x.book(), 1);
        check.holds("state", Check.state(x).equals("3/4 2,5,6,7"));
    }

    private static void reads(String text, String state) {
        HandsInBook x = new HandsInBook();
        Check.feed(x, text);
        check.due("book " + text, x.book(), text.split(";").length - 1);
        check.holds(text + " is " + Check.state(x), Check.state(x).equals(state));
        check.due("fault", x.fault(), 0);
        check.due("tape", x.count(6), 0);
    }

    private static void faults() {
        fails("", 0, 1);
        fails("p", 0, 1);
        fails("1", 0, 1);
        fails("H1,1;", 0, 1);
        fails(" h1,1;p1,1,1;", 0, 1);
        fails("h", 1, 1);
        fails("hh", 1, 1);
        fails("h,", 1, 1);
        fails("h60", 3, 1);
        fails("h61", 1, 2);
        fails("h61x", 1, 2);
        fails("h060,1;p1,1,1;", 1, 1);
        fails("h999,1;p1,1,1;", 1, 1);
        fails("h1234567890", 1, 1);
        fails("h60;", 3, 1);
        fails("h60,", 4, 1);
        fails("h60,21;", 4, 2);
        fails("h60,020;", 4, 1);
        fails("h60,20", 6, 1);
        fails("h60,20,", 6, 1);
        fails("h60,20;", 7, 1);
        fails("h60,20;;", 7, 1);
        fails("h60,20;h", 7, 1);
        fails("h60,20;7", 7, 1);
        fails("h60,20;p", 8, 1);
        fails("h60,20;pp", 8, 1);
        fails("h60,20;p31", 8, 2);
        fails("h60,20;p99,x", 8, 2);
        fails("h60,20;p310", 8, 1);
        fails("h60,20;p1", 9, 1);
        fails("h60,20;p1;", 9, 1);
        fails("h60,20;p1,", 10, 1);
        fails("h60,20;p1,31,", 10, 2);
        fails("h60,20;p1,3,1", 13, 1);
        fails("h60,20;p1,3,1,", 13, 1);
        fails("h60,20;p1,3,40;", 12, 2);
        fails("h60,20;p1,3,4 ;", 13, 1);
        fails("h60,20;p1,3,4;\n", 14, 1);
        fails("h60,20;p1,3,4;P1,3,4;", 14, 1);
        fails("h60,20;p1,3,4;a1,3,4;", 14, 1);
        fails("h60,20;p1,3,4;p1,3,4", 20, 1);
        fails("h60,20;p1,-3,4;", 10, 1);
        fails("h60 ,20;p1,3,4;", 3, 1);
        String ten = "h1,2;" + "c1,2,3;".repeat(10);
        fails(ten + "p", 75, 3);
        fails(ten + "g99,x", 75, 3);
        fails(ten + "h", 75, 1);
        fails(ten + "5", 75, 1);
        fails(ten + "555", 75, 1);
        fails(ten + ";", 75, 1);
        fails("h1,2;" + "c1,2,3;".repeat(9) + "c1,2,33;p1,1,1;", 73, 2);
        fails("h\u00ff", 1, 1);
        fails("h6\u00b2,1;p1,1,1;", 2, 1);
    }

    private static void fails(String text, int place, int number) {
        HandsInBook x = new HandsInBook();
        Check.feed(x, text);
        check.due("book '" + text + "'", x.book(), -1000100 - place);
        check.due("fault of '" + text + "'", x.fault(), number);
        check.due("tape behind '" + text + "'", x.count(6), 0);
        check.due("pages behind '" + text + "'", x.count(1), 0);
        check.due("no BOOK behind '" + text + "'", x.whole(6), STATE);
    }

    private static void faultsLeaveTheRest() {
        HandsInBook x = Check.told("h10,3;p1,2,3;f4,5,6;");
        x.law(0, 12);
        x.image(1);
        x.row(3, 1, 9);
        x.ask(1, 1);
        String trace = Check.traced(x);
        String state = Check.state(x);
        Check.feed(x, "h20,1;g30,30,31;");
        check.due("fault", x.book(), -1000100 - 13);
        check.due("its number", x.fault(), 2);
        check.holds("the BOOK stays", Check.state(x).equals(state));
        check.due("ACTS stay", x.count(5), 1);
        check.holds("THE TRACE stays", Check.traced(x).equals(trace));
        Check.feed(x, "h20,1;g30,30,30;");
        check.due("then without one", x.book(), 1);
        check.due("the latest is told yet", x.fault(), 2);
        check.due("no ACT can be undone", x.undo(), STATE);
        check.due("ROWS stay", x.drop(3), 9);
        check.due("IMAGES stay", x.restore(1), 1);
        check.holds("as it was kept", Check.state(x).equals(state));
    }

    private static void words() {
        HandsInBook x = new HandsInBook();
        Check.feed(x, "hands");
        check.due("no BOOK", x.say(), STATE);
        check.due("the tape is empty then, too", x.count(6), 0);
        Check.feed(x, "h4,2;p5,5,5;p6,5,5;p7,5,5;p8,5,5;p9,5,5;p20,5,5;p5,6,5;");
        x.book();
        check.due("hands", Check.word(x, "hands"), 3);
        check.due("doubts", Check.word(x, "doubts"), 4);
        check.due("runs", Check.word(x, "runs"), 3);
        check.due("weight", Check.word(x, "weight"), 8);
        check.due("groups", Check.word(x, "groups"), 3);
        check.due("spread", Check.word(x, "spread"), 16);
        check.due("limit", Check.word(x, "limit"), 4);
        check.due("change", Check.word(x, "change"), 2);
        check.due("pages", Check.word(x, "pages"), 7);
        x.take(6);
        check.due("pages, one less", Check.word(x, "pages"), 6);
        String[] others = {"", "h", "hand", "handss", "hands ", " hands", "Hands", "HANDS", "hands1", "run", "runss",
            "limits", "page", "status", "doubtsdoubts", "weightweightweight", "hands,", "hbnds", "\u00e8", "spreadx"};
        for (String other : others) {
            check.due("'" + other + "'", Check.word(x, other), NONE);
            check.due("tape behind '" + other + "'", x.count(6), 0);
        }
        check.due("a word behind another", Check.word(x, "limit"), 4);
    }
}
