/** Promises 9 to 15, 30 and 31: ACTS, undone ones, IMAGES. */
public final class ActsTest {
    private static final int BAD = -1000001, STATE = -1000002, FULL = -1000003;
    private static final Check check = new Check("ActsTest");

    public static void main(String[] args) {
        putting();
        taking();
        moving();
        measuring();
        becoming();
        laws();
        undoing();
        manyActs();
        images();
        check.finish();
    }

    private static void is(HandsInBook x, String what, String state) {
        check.holds(what + ": " + Check.state(x) + " is to be " + state, Check.state(x).equals(state));
    }

    private static void putting() {
        HandsInBook none = new HandsInBook();
        check.due("STATE ahead of BAD", none.put(-1, 9, 99, 99, 99), STATE);
        HandsInBook x = Check.told("h1,2;p1,1,1;");
        check.due("ahead", x.put(0, 2, 0, 0, 0), 2);
        check.due("behind", x.put(2, 5, 30, 30, 30), 3);
        check.due("between", x.put(1, 3, 4, 5, 6), 4);
        is(x, "put", "1/2 2,0,0,0 3,4,5,6 1,1,1,1 5,30,30,30");
        check.due("place -1", x.put(-1, 1, 0, 0, 0), BAD);
        check.due("place 5", x.put(5, 1, 0, 0, 0), BAD);
        check.due("kind 0", x.put(0, 0, 0, 0, 0), BAD);
        check.due("kind 6", x.put(0, 6, 0, 0, 0), BAD);
        for (int v : new int[] {-1, 31, Integer.MIN_VALUE, Integer.MAX_VALUE}) {
            check.due("slant", x.put(0, 1, v, 0, 0), BAD);
            check.due("height", x.put(0, 1, 0, v, 0), BAD);
            check.due("width", x.put(0, 1, 0, 0, v), BAD);
        }
        check.due("ACTS", x.count(5), 3);
        for (int pages = 5; pages <= 10; pages++) {
            check.due("put", x.put(0, 4, 7, 8, 9), pages);
        }
        check.due("FULL", x.put(0, 4, 7, 8, 9), FULL);
        check.due("BAD ahead of FULL", x.put(11, 4, 7, 8, 9), BAD);
        check.due("ACTS", x.count(5), 9);
        check.due("PAGES", x.count(1), 10);
    }

    private static void taking() {
        check.due("no BOOK", new HandsInBook().take(0), BAD);
        HandsInBook x = Check.told("h1,2;p1,1,1;f2,2,2;r3,3,3;");
        check.due("take -1", x.take(-1), BAD);
        check.due("take 3", x.take(3), BAD);
        check.due("take 1", x.take(1), 2);
        is(x, "take", "1/2 1,1,1,1 3,3,3,3");
        check.due("take 1 again", x.take(1), 1);
        is(x, "take", "1/2 1,1,1,1");
        check.due("the only one", x.take(0), STATE);
        check.due("BAD ahead of STATE", x.take(1), BAD);
        check.due("undo", x.undo(), 1);
        check.due("undo", x.undo(), 0);
        is(x, "undone", "1/2 1,1,1,1 2,2,2,2 3,3,3,3");
    }

    private static void moving() {
        check.due("no BOOK", new HandsInBook().move(0, 0), BAD);
        HandsInBook x = Check.told("h1,2;p1,1,1;f2,2,2;r3,3,3;c4,4,4;");
        check.due("move 0 to 2", x.move(0, 2), 1);
        is(x, "forth", "1/2 2,2,2,2 3,3,3,3 1,1,1,1 4,4,4,4");
        check.due("move 3 to 0", x.move(3, 0), 4);
        is(x, "back", "1/2 4,4,4,4 2,2,2,2 3,3,3,3 1,1,1,1");
        check.due("to the last", x.move(1, 3), 2);
        is(x, "to the last", "1/2 4,4,4,4 3,3,3,3 1,1,1,1 2,2,2,2");
        check.due("it is there", x.move(1, 1), STATE);
        check.due("place 4", x.move(1, 4), BAD);
        check.due("place -1", x.move(1, -1), BAD);
        check.due("page 4", x.move(4, 4), BAD);
        check.due("page -1", x.move(-1, -1), BAD);
        check.due("ACTS", x.count(5), 3);
        x.undo();
        x.undo();
        is(x, "undone", "1/2 2,2,2,2 3,3,3,3 1,1,1,1 4,4,4,4");
        HandsInBook full = Check.told("h1,2;" + "p1,1,1;".repeat(9) + "g2,2,2;");
        check.due("move in a full one", full.move(9, 0), 5);
        is(full, "full", "1/2 5,2,2,2" + " 1,1,1,1".repeat(9));
    }

    private static void measuring() {
        check.due("no BOOK", new HandsInBook().measure(0, 0, 0), BAD);
        HandsInBook x = Check.told("h1,2;p1,2,3;f4,5,6;");
        check.due("slant", x.measure(1, 0, 30), 4);
        check.due("height", x.measure(1, 1, 0), 5);
        check.due("width", x.measure(1, 2, 7), 6);
        is(x, "measured", "1/2 1,1,2,3 2,30,0,7");
        check.due("the same", x.measure(1, 2, 7), 7);
        check.due("an ACT also if it is that", x.count(5), 4);
        check.due("page 2", x.measure(2, 0, 0), BAD);
        check.due("page -1", x.measure(-1, 0, 0), BAD);
        check.due("which -1", x.measure(0, -1, 0), BAD);
        check.due("which 3", x.measure(0, 3, 0), BAD);
        check.due("v -1", x.measure(0, 0, -1), BAD);
        check.due("v 31", x.measure(0, 0, 31), BAD);
        check.due("no ACT", x.undo(), 3);
        is(x, "undone", "1/2 1,1,2,3 2,30,0,7");
        check.due("undo", x.undo(), 2);
        is(x, "undone", "1/2 1,1,2,3 2,30,0,6");
    }

    private static void becoming() {
        check.due("no BOOK", new HandsInBook().become(0, 1), BAD);
        HandsInBook x = Check.told("h1,2;p1,2,3;f4,5,6;");
        check.due("become", x.become(0, 5), 1);
        check.due("become again", x.become(0, 3), 5);
        check.due("it is that", x.become(0, 3), STATE);
        check.due("kind 0", x.become(0, 0), BAD);
        check.due("kind 6", x.become(0, 6), BAD);
        check.due("page 2", x.become(2, 1), BAD);
        is(x, "became", "1/2 3,1,2,3 2,4,5,6");
        check.due("undo", x.undo(), 1);
        is(x, "undone", "1/2 5,1,2,3 2,4,5,6");
    }

    private static void laws() {
        check.due("STATE ahead of BAD", new HandsInBook().law(9, 99), STATE);
        HandsInBook x = Check.told("h1,2;p1,2,3;");
        check.due("limit", x.law(0, 60), 1);
        check.due("change", x.law(1, 20), 2);
        is(x, "laws", "60/20 1,1,2,3");
        check.due("the same", x.law(0, 60), 60);
        check.due("ACTS", x.count(5), 3);
        check.due("limit 61", x.law(0, 61), BAD);
        check.due("limit -1", x.law(0, -1), BAD);
        check.due("change 21", x.law(1, 21), BAD);
        check.due("change -1", x.law(1, -1), BAD);
        check.due("which 2", x.law(2, 0), BAD);
        check.due("which -1", x.law(-1, 0), BAD);
        check.due("limit 0", x.law(0, 0), 60);
        x.undo();
        x.undo();
        x.undo();
        is(x, "undone", "60/2 1,1,2,3");
        check.due("what is found, too", x.whole(7), 2);
    }

    private static void undoing() {
        check.due("none", new HandsInBook().undo(), STATE);
        HandsInBook x = Check.told("h1,2;p1,2,3;");
        String[] states = new String[7];
        states[0] = Check.state(x);
        x.put(1, 3, 9, 9, 9);
        states[1] = Check.state(x);
        x.put(0, 4, 8, 8, 8);
        states[2] = Check.state(x);
        x.move(0, 2);
        states[3] = Check.state(x);
        x.become(1, 5);
        states[4] = Check.state(x);
        x.measure(0, 1, 0);
        states[5] = Check.state(x);
        x.take(1);
        check.due("written of what is", x.whole(0), 2);
        for (int left = 5; left >= 0; left--) {
            check.due("undo", x.undo(), left);
            is(x, "undone", states[left]);
            check.due("ACTS", x.count(5), left);
        }
        check.due("none left", x.undo(), STATE);
        x.law(0, 9);
        check.due("an ACT behind that", x.undo(), 0);
        is(x, "undone", states[0]);
    }

    private static void manyActs() {
        HandsInBook x = Check.told("h0,0;p0,0,0;");
        for (int v = 1; v <= 60; v++) {
            x.law(0, v);
            check.due("ACTS", x.count(5), Math.min(v, 24));
        }
        for (int left = 23; left >= 0; left--) {
            check.due("undo", x.undo(), left);
            check.due("limit", x.whole(6), 60 - (24 - left));
        }
        check.due("the oldest are forgotten", x.undo(), STATE);
        check.due("limit", x.whole(6), 36);
        for (int v = 1; v <= 20; v++) {
            x.law(1, v);
        }
        check.due("ring goes on", x.undo(), 19);
        check.due("change", x.whole(7), 19);
    }

    private static void images() {
        HandsInBook x = new HandsInBook();
        check.due("BAD ahead of STATE", x.image(2), BAD);
        check.due("image -1", x.image(-1), BAD);
        check.due("no BOOK", x.image(0), STATE);
        check.due("restore 2", x.restore(2), BAD);
        check.due("restore -1", x.restore(-1), BAD);
        check.due("restore none", x.restore(1), STATE);
        Check.feed(x, "h1,2;p1,2,3;f4,5,6;");
        x.book();
        x.law(0, 7);
        check.due("image", x.image(0), 1);
        check.due("an image is no ACT", x.count(5), 1);
        check.due("the other was not kept", x.restore(1), STATE);
        x.take(0);
        x.measure(0, 0, 29);
        check.due("image", x.image(1), 1);
        x.become(0, 1);
        check.due("restore", x.restore(0), 1);
        is(x, "restored", "7/2 1,1,2,3 2,4,5,6");
        check.due("no ACT can be undone then", x.undo(), STATE);
        check.due("ACTS", x.count(5), 0);
        x.measure(0, 0, 30);
        check.due("restore again", x.restore(0), 1);
        is(x, "the image did not change", "7/2 1,1,2,3 2,4,5,6");
        check.due("what is found", x.spread(3), 6);
        check.due("restore the other", x.restore(1), 1);
        is(x, "restored", "7/2 2,29,5,6");
        check.due("an image anew", x.image(0), 1);
        x.law(0, 8);
        x.restore(0);
        is(x, "restored", "7/2 2,29,5,6");
    }
}
