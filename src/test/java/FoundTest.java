/** Promises 16 to 22: what is found of the BOOK. */
public final class FoundTest {
    private static final int NONE = -1000000, BAD = -1000001, STATE = -1000002;
    private static final Check check = new Check("FoundTest");

    public static void main(String[] args) {
        gapsByKind();
        spreads();
        groups();
        groupsOfSeveral();
        hands();
        handsOfSeveral();
        standing();
        runs();
        runsOfSeveral();
        writing();
        refusals();
        check.finish();
    }

    /** SLANTS 3, HEIGHTS 7, WIDTHS 5 APART: plain 15, faded 10, ruled 11, copy 7, forged 12. */
    private static void gapsByKind() {
        int[] gives = {0, 15, 10, 11, 7, 12};
        HandsInBook x = Check.told("h0,0;p10,10,10;p13,3,15;");
        for (int a = 1; a <= 5; a++) {
            for (int b = 1; b <= 5; b++) {
                x.become(0, a);
                x.become(1, b);
                int want = Math.min(gives[a], gives[b]);
                check.due("kinds " + a + ", " + b, x.apart(0, 1), want);
                check.due("kinds " + b + ", " + a, x.apart(1, 0), want);
            }
        }
        HandsInBook same = Check.told("h0,0;g1,1,1;g1,1,1;");
        check.due("forged ones that are the same", same.apart(0, 1), 5);
        HandsInBook far = Check.told("h0,0;p0,0,0;p30,30,30;");
        check.due("furthest", far.apart(0, 1), 90);
        check.due("half of 1 is cut", Check.told("h0,0;r0,0,0;r0,1,0;").apart(0, 1), 0);
        check.due("a copy by slants", Check.told("h0,0;c9,0,0;c0,8,7;").apart(0, 1), 9);
        check.due("a copy by widths", Check.told("h0,0;c0,0,9;c8,7,0;").apart(0, 1), 9);
    }

    private static void spreads() {
        HandsInBook x = Check.told("h0,0;p0,0,0;p4,0,0;p10,0,0;f0,9,30;");
        check.due("one", x.spread(4), 0);
        check.due("two", x.spread(3), 4);
        check.due("three", x.spread(7), 10);
        check.due("with the faded one", x.spread(9), 9);
        check.due("all", x.spread(15), 19);
        check.due("whole", x.whole(5), 19);
    }

    private static void groups() {
        HandsInBook x = Check.told("h10,0;p0,0,0;p5,0,0;p10,0,0;p15,0,0;p20,0,0;p25,0,0;p30,0,0;");
        int[] firsts = {0, 0, 2, 2, 4, 4, 4};
        for (int page = 0; page < 7; page++) {
            check.due("group of " + page, x.page(page, 3), firsts[page]);
        }
        check.due("groups", x.whole(4), 3);
        x.law(0, 15);
        check.due("groups by 15", x.whole(4), 2);
        check.due("group of 2", x.page(2, 3), 0);
        x.law(0, 4);
        check.due("groups by 4", x.whole(4), 7);
        x.law(0, 30);
        check.due("groups by 30", x.whole(4), 1);
        HandsInBook forged = Check.told("h4,0;g1,1,1;g1,1,1;");
        check.due("5 is above 4", forged.whole(4), 2);
        forged.law(0, 5);
        check.due("5 is 5 or less", forged.whole(4), 1);
    }

    /** 0-1 and 1-2 and 2-3 lie alike: the least first PAGE of the one, then of the other. */
    private static void groupsOfSeveral() {
        HandsInBook x = Check.told("h3,0;p6,0,0;p3,0,0;p0,0,0;p9,0,0;");
        // 0 (6) may join with 1 (3) or 3 (9): with 1; then 2 and 3 stay alone.
        check.due("group of 1", x.page(1, 3), 0);
        check.due("group of 2", x.page(2, 3), 2);
        check.due("group of 3", x.page(3, 3), 3);
        HandsInBook y = Check.told("h2,0;p9,0,0;p3,0,0;p2,0,0;p8,0,0;p4,0,0;");
        // 0 and 3 first, then 1 and 2 ahead of 1 and 4; 4 with those spreads 2.
        check.due("group of 3", y.page(3, 3), 0);
        check.due("group of 2", y.page(2, 3), 1);
        check.due("group of 4", y.page(4, 3), 1);
    }

    private static void hands() {
        HandsInBook x = Check.told("h4,2;p5,5,5;p6,5,5;p7,5,5;p8,5,5;p9,5,5;p20,5,5;p5,6,5;");
        int[] handOf = {0, 0, 0, 0, 0, 1, 2};
        int[] doubt = {1, 1, 1, 1, 0, 0, 0};
        for (int page = 0; page < 7; page++) {
            check.due("hand of " + page, x.page(page, 4), handOf[page]);
            check.due("doubt of " + page, x.page(page, 5), doubt[page]);
        }
        check.due("hand 0", x.hand(0, 0), 31);
        check.due("hand 1", x.hand(1, 0), 32);
        check.due("hand 2", x.hand(2, 0), 64);
        check.due("spread of hand 0", x.hand(0, 1), 4);
        check.due("spread of hand 1", x.hand(1, 1), 0);
        check.due("hands", x.whole(0), 3);
        check.due("doubts", x.whole(1), 4);
    }

    /** Joining what is nearest would want three HANDS; and the first PAGE must leave the second one. */
    private static void handsOfSeveral() {
        HandsInBook x = Check.told("h4,0;p4,0,0;p5,0,0;p0,0,0;p9,0,0;");
        check.due("hand of 1", x.page(1, 4), 1);
        check.due("hand of 2", x.page(2, 4), 0);
        check.due("hand of 3", x.page(3, 4), 1);
        check.due("hands", x.whole(0), 2);
        check.due("groups", x.whole(4), 3);
        HandsInBook y = Check.told("h5,0;p0,0,0;p10,0,0;p5,0,0;");
        check.due("of several the first by their numbers", y.page(2, 4), 0);
        check.due("and in doubt", y.page(2, 5), 1);
        check.due("not in doubt", y.page(0, 5), 0);
        HandsInBook z = Check.told("h0,0;" + "g0,0,0;".repeat(10));
        check.due("ten hands", z.whole(0), 10);
        check.due("hand of 9", z.page(9, 4), 9);
    }

    private static void standing() {
        HandsInBook x = Check.told("h30,0;p0,0,0;p20,0,0;p9,0,0;p11,0,0;");
        check.due("the first of those in the middle", x.hand(0, 2), 2);
        x.move(3, 0);
        check.due("the other one first", x.hand(0, 2), 0);
        HandsInBook y = Check.told("h2,0;p30,0,0;p0,0,0;p2,0,0;p1,0,0;");
        check.due("of one by itself", y.hand(0, 2), 0);
        check.due("of three", y.hand(1, 2), 3);
    }

    private static void runs() {
        HandsInBook x = Check.told("h0,3;p0,0,0;p1,0,0;p20,0,0;p21,0,0;p22,0,0;p0,0,0;");
        check.due("runs", x.whole(2), 3);
        check.due("weight", x.whole(3), 1 + 3 + 2 + 3 + 0);
        int[][] want = {{0, 2, 1}, {2, 3, 2}, {5, 1, 0}};
        for (int run = 0; run < 3; run++) {
            for (int what = 0; what < 3; what++) {
                check.due("run " + run + ", " + what, x.run(run, what), want[run][what]);
            }
        }
        int[] runOf = {0, 0, 1, 1, 1, 2};
        for (int page = 0; page < 6; page++) {
            check.due("run of " + page, x.page(page, 6), runOf[page]);
        }
        x.law(1, 20);
        check.due("one run", x.whole(2), 1);
        check.due("its weight", x.whole(3), 22);
        check.due("its pages", x.run(0, 1), 6);
        x.law(1, 0);
        check.due("each by itself", x.whole(2), 6);
        check.due("that weighs none", x.whole(3), 0);
    }

    private static void runsOfSeveral() {
        HandsInBook fewest = Check.told("h0,5;p0,0,0;p5,0,0;");
        check.due("the fewest", fewest.whole(2), 1);
        check.due("weight", fewest.whole(3), 5);
        HandsInBook none = Check.told("h0,0;p3,3,3;p3,3,3;p3,3,3;");
        check.due("the fewest of weight 0", none.whole(2), 1);
        // The copy lies 3 from both sides, which lie 18 APART: 0 | 1 2 and 0 1 | 2 weigh 7 each.
        HandsInBook sides = Check.told("h0,4;p0,0,0;c3,3,3;p6,6,6;");
        check.due("weight", sides.whole(3), 7);
        check.due("runs", sides.whole(2), 2);
        check.due("the first one shortest", sides.run(0, 1), 1);
        HandsInBook later = Check.told("h0,4;p30,0,0;p0,0,0;c3,3,3;p6,6,6;");
        check.due("weight", later.whole(3), 11);
        check.due("the first in which they are unlike", later.run(1, 1), 1);
        check.due("the last one", later.run(2, 1), 2);
        String[] books = {"h0,2;c0,0,0;p1,0,0;c0,9,0;p1,1,0;p0,9,9;", "h0,6;p0,0,0;p6,0,0;p6,6,6;p0,0,6;",
            "h0,3;p0,0,0;p2,0,0;p2,2,0;p2,2,2;p4,2,2;p4,4,2;"};
        for (String book : books) {
            HandsInBook x = Check.told(book);
            check.due("weight of " + book, x.whole(3), leastWeight(x));
        }
    }

    /** What all ways to cut weigh, one by one, from apart() alone. */
    private static int leastWeight(HandsInBook x) {
        int pages = x.count(1);
        int least = Integer.MAX_VALUE;
        for (int cuts = 0; cuts < 1 << (pages - 1); cuts++) {
            int weight = Integer.bitCount(cuts) * x.whole(7);
            int first = 0;
            for (int page = 0; page < pages; page++) {
                if (page == pages - 1 || ((cuts >> page) & 1) == 1) {
                    weight += x.spread((2 << page) - (1 << first));
                    first = page + 1;
                }
            }
            least = Math.min(least, weight);
        }
        return least;
    }

    private static void writing() {
        written("h0,0;c3,4,5;", "A0/");
        written("h5,0;c3,4,5;p3,4,5;g3,4,5;", "A0,1,2/");
        written("h4,2;p5,5,5;p6,5,5;p7,5,5;p8,5,5;p9,5,5;p20,5,5;p5,6,5;", "A0?,1?,2?,3?,4;B5;C6/5,6");
        written("h0,0;p0,0,0;p9,0,0;p0,0,0;", "A0,2;B1/1,2");
        written("h4,0;g0,0,0;g0,0,0;g0,0,0;", "A0;B1;C2/1,2");
        written("h5,0;p0,0,0;p10,0,0;p5,0,0;", "A0,2?;B1/1,2");
        written("h0,0;g0,0,0;g1,0,0;g2,0,0;g3,0,0;g4,0,0;g5,0,0;g6,0,0;g7,0,0;g8,0,0;g9,0,0;",
                "A0;B1;C2;D3;E4;F5;G6;H7;I8;J9/1,2,3,4,5,6,7,8,9");
    }

    private static void written(String text, String want) {
        HandsInBook x = Check.told(text);
        check.holds(Check.written(x) + " is to be " + want, Check.written(x).equals(want));
        check.due("signs", x.whole(8), want.length());
        check.due("no more signs", x.sign(want.length()), NONE);
        check.due("far behind", x.sign(Integer.MAX_VALUE), NONE);
        check.due("sign -1", x.sign(-1), BAD);
    }

    private static void refusals() {
        HandsInBook none = new HandsInBook();
        check.due("page", none.page(0, 0), BAD);
        check.due("apart", none.apart(0, 1), BAD);
        check.due("spread", none.spread(0), STATE);
        check.due("whole", none.whole(-1), STATE);
        check.due("hand", none.hand(0, 0), BAD);
        check.due("run", none.run(0, 0), BAD);
        check.due("sign", none.sign(-1), STATE);
        HandsInBook x = Check.told("h4,2;p5,5,5;p16,5,5;");
        for (int wrong : new int[] {-1, 2, Integer.MIN_VALUE, Integer.MAX_VALUE}) {
            check.due("page " + wrong, x.page(wrong, 0), BAD);
            check.due("apart " + wrong, x.apart(wrong, 0), BAD);
            check.due("apart, other " + wrong, x.apart(0, wrong), BAD);
            check.due("hand " + wrong, x.hand(wrong, 0), BAD);
            check.due("run " + wrong, x.run(wrong, 0), BAD);
        }
        check.due("page, what -1", x.page(0, -1), BAD);
        check.due("page, what 7", x.page(0, 7), BAD);
        check.due("one and the same", x.apart(1, 1), BAD);
        check.due("no set", x.spread(0), BAD);
        check.due("set with a page too many", x.spread(4), BAD);
        check.due("set -1", x.spread(-1), BAD);
        check.due("least set", x.spread(Integer.MIN_VALUE), BAD);
        check.due("whole -1", x.whole(-1), BAD);
        check.due("whole 9", x.whole(9), BAD);
        check.due("hand, what -1", x.hand(0, -1), BAD);
        check.due("hand, what 3", x.hand(0, 3), BAD);
        check.due("run, what -1", x.run(0, -1), BAD);
        check.due("run, what 3", x.run(0, 3), BAD);
    }
}
