import java.util.Random;

/** All promises: runs of calls by draws of a fixed seed, each answer held against Model. */
public final class RandomRunsTest {
    private static final String[] WORDS = {"hands", "doubts", "runs", "weight", "groups", "spread", "limit", "change",
        "pages", "page", "handss", "", "Hands"};
    private final Check check;
    private final Random draws;
    private final HandsInBook x = new HandsInBook();
    private final Model m = new Model();
    private final StringBuilder before = new StringBuilder();

    private RandomRunsTest(Check check, long seed) {
        this.check = check;
        this.draws = new Random(seed);
    }

    public static void main(String[] args) {
        Check check = new Check("RandomRunsTest");
        int runs = args.length > 1 ? Integer.parseInt(args[1]) : 60;
        for (int seed = 0; seed < runs && check.wrongOnes() == 0; seed++) {
            new RandomRunsTest(check, seed).go();
            Model.forget();
        }
        check.finish();
    }

    private void go() {
        int most = 1 + draws.nextInt(draws.nextInt(4) == 0 ? 10 : 7);
        int width = new int[] {2, 5, 12, 31}[draws.nextInt(4)];
        for (int i = 0; i < 400 && check.wrongOnes() == 0; i++) {
            if (i == 5 || draws.nextInt(60) == 0) {
                tellBook(most, width);
            }
            if (draws.nextInt(8) == 0) {
                callAct(width);
            } else if (draws.nextInt(3) == 0) {
                callRows();
            } else {
                callAny();
            }
        }
        if (check.wrongOnes() != 0) {
            System.out.println("calls before:" + before);
        }
    }

    private void due(String call, long got, long want) {
        check.due(call, got, want);
        before.append(' ').append(call);
    }

    private void feed(String text) {
        for (int i = 0; i < text.length(); i++) {
            due("feed(" + (int) text.charAt(i) + ")", x.feed(text.charAt(i)), m.feed(text.charAt(i)));
        }
    }

    private void tellBook(int most, int width) {
        StringBuilder text = new StringBuilder();
        text.append('h').append(draws.nextInt(draws.nextBoolean() ? 61 : width + 4)).append(',');
        text.append(draws.nextInt(draws.nextBoolean() ? 21 : 5)).append(';');
        int pages = 1 + draws.nextInt(most);
        for (int page = 0; page < pages; page++) {
            text.append("pfrcg".charAt(draws.nextInt(5)));
            text.append(draws.nextInt(width)).append(',').append(draws.nextInt(width)).append(',');
            text.append(draws.nextInt(width)).append(';');
        }
        if (draws.nextInt(4) == 0) {
            text.setCharAt(draws.nextInt(text.length()), "hpfq,;0139 A".charAt(draws.nextInt(12)));
        }
        if (draws.nextInt(10) == 0) {
            text.setLength(draws.nextInt(text.length()));
        }
        if (draws.nextInt(10) == 0) {
            text.append("p0,0,0;".repeat(draws.nextInt(12)));
        }
        feed(text.toString());
        due("book()", x.book(), m.book());
        due("fault()", x.fault(), m.fault());
    }

    /** A number that is mostly as told, at times at an edge or far off. */
    private int n(int low, int high) {
        int d = draws.nextInt(40);
        if (d == 0) {
            return low - 1;
        } else if (d == 1) {
            return high + 1;
        } else if (d == 2) {
            return draws.nextBoolean() ? Integer.MIN_VALUE : Integer.MAX_VALUE;
        } else if (d == 3) {
            return draws.nextInt();
        }
        return low + draws.nextInt(high - low + 1);
    }

    private int aPage() {
        return n(0, Math.max(0, m.count(1) - 1));
    }

    private void callRows() {
        int a = n(0, 3);
        int b = n(0, 3);
        int i = n(0, 6);
        int j = n(0, 6);
        int k = n(0, 5);
        switch (draws.nextInt(6)) {
            case 0:
                int lane = n(0, 2);
                int size = n(0, 12);
                due("row(" + a + ", " + lane + ", " + size + ")", x.row(a, lane, size), m.row(a, lane, size));
                break;
            case 1:
                int v = n(-300, 70000);
                due("set(" + a + ", " + i + ", " + v + ")", x.set(a, i, v), m.set(a, i, v));
                break;
            case 2:
                due("copy(" + a + ", " + i + ", " + b + ", " + j + ", " + k + ")", x.copy(a, i, b, j, k),
                        m.copy(a, i, b, j, k));
                break;
            case 3:
                if (draws.nextInt(4) == 0) {
                    due("drop(" + a + ")", x.drop(a), m.drop(a));
                }
                break;
            case 4:
                tellHands();
                break;
            default:
                due("status()", x.status(), m.status());
                break;
        }
    }

    /** HANDS as they are, at times with one that is not, so that who() finds some. */
    private void tellHands() {
        int pages = m.count(1);
        due("row(4, 1, 11)", x.row(4, 1, 11), m.row(4, 1, 11));
        for (int page = 0; page < pages; page++) {
            int hand = draws.nextInt(12) == 0 ? draws.nextInt(3) : m.page(page, 4);
            due("set(4, " + page + ", " + hand + ")", x.set(4, page, hand), m.set(4, page, hand));
        }
        for (int which = 0; which <= 5; which++) {
            callWho(which, 4, draws.nextInt(6) == 0 ? 1 : 0);
        }
    }

    private void callWho(int which, int row, int i) {
        int page = aPage();
        int n = draws.nextBoolean() ? m.count(1) : n(1, Math.max(1, m.count(1)));
        due("who(" + page + ", " + which + ", " + row + ", " + i + ", " + n + ")", x.who(page, which, row, i, n),
                m.who(page, which, row, i, n));
    }

    private void callAct(int width) {
        int page = aPage();
        int place = aPage();
        int kind = n(1, 5);
        switch (draws.nextInt(8)) {
            case 0:
                int s = n(0, width - 1);
                int h = n(0, width - 1);
                int w = n(0, width - 1);
                int at = n(0, m.count(1));
                due("put(" + at + ", " + kind + ", " + s + ", " + h + ", " + w + ")", x.put(at, kind, s, h, w),
                        m.put(at, kind, s, h, w));
                break;
            case 1:
                due("take(" + page + ")", x.take(page), m.take(page));
                break;
            case 2:
                due("move(" + page + ", " + place + ")", x.move(page, place), m.move(page, place));
                break;
            case 3:
                int which = n(0, 2);
                int v = n(0, 30);
                due("measure(" + page + ", " + which + ", " + v + ")", x.measure(page, which, v),
                        m.measure(page, which, v));
                break;
            case 4:
                due("become(" + page + ", " + kind + ")", x.become(page, kind), m.become(page, kind));
                break;
            case 5:
                int law = n(0, 1);
                int to = n(0, draws.nextBoolean() ? 20 : 60);
                due("law(" + law + ", " + to + ")", x.law(law, to), m.law(law, to));
                break;
            case 6:
                due("undo()", x.undo(), m.undo());
                break;
            default:
                callImage();
                break;
        }
    }

    private void callImage() {
        int k = n(0, 1);
        if (draws.nextBoolean()) {
            due("image(" + k + ")", x.image(k), m.image(k));
        } else {
            due("restore(" + k + ")", x.restore(k), m.restore(k));
        }
    }

    private void callAny() {
        int page = aPage();
        int other = aPage();
        switch (draws.nextInt(12)) {
            case 0:
                int what = n(0, 6);
                due("page(" + page + ", " + what + ")", x.page(page, what), m.page(page, what));
                due("kind(" + page + ")", x.kind(page), m.kind(page));
                break;
            case 1:
                int set = n(0, (1 << m.count(1)) - 1);
                due("apart(" + page + ", " + other + ")", x.apart(page, other), m.apart(page, other));
                due("spread(" + set + ")", x.spread(set), m.spread(set));
                break;
            case 2:
                for (int all = -1; all <= 9; all++) {
                    due("whole(" + all + ")", x.whole(all), m.whole(all));
                }
                break;
            case 3:
                for (int k = 0; k <= 2; k++) {
                    int hand = n(0, 4);
                    due("hand(" + hand + ", " + k + ")", x.hand(hand, k), m.hand(hand, k));
                    due("run(" + hand + ", " + k + ")", x.run(hand, k), m.run(hand, k));
                }
                break;
            case 4:
                for (int i = -1; i < 60; i++) {
                    due("sign(" + i + ")", x.sign(i), m.sign(i));
                }
                break;
            case 5:
                feed(WORDS[draws.nextInt(WORDS.length)]);
                due("say()", x.say(), m.say());
                break;
            case 6:
                due("without(" + page + ")", x.without(page), m.without(page));
                due("pairs(" + page + ")", x.pairs(page), m.pairs(page));
                break;
            case 7:
                callAsks(page);
                break;
            case 8:
                callWho(n(0, 5), n(0, 3), n(0, 5));
                break;
            default:
                callDear();
                break;
        }
    }

    private void callAsks(int page) {
        int kind = n(0, 5);
        int what = n(0, 1);
        due("as(" + page + ", " + kind + ")", x.as(page, kind), m.as(page, kind));
        due("ask(" + page + ", " + what + ")", x.ask(page, what), m.ask(page, what));
        for (int i = -1; i <= 7; i++) {
            due("trace(" + i + ")", x.trace(i), m.trace(i));
        }
        for (int all = -1; all <= 7; all++) {
            due("count(" + all + ")", x.count(all), m.count(all));
        }
    }

    private void callDear() {
        int v = n(0, 10);
        int p = n(0, 10);
        int what = n(0, 1);
        int times = n(0, 20);
        int seed = n(1, 999999);
        switch (draws.nextInt(3)) {
            case 0:
                if (m.count(1) <= 7 || draws.nextInt(20) == 0) {
                    due("least(" + v + ")", x.least(v), m.least(v));
                }
                break;
            case 1:
                if (m.count(1) <= 7 || draws.nextInt(10) == 0) {
                    due("lost(" + v + ", " + p + ", " + what + ")", x.lost(v, p, what), m.lost(v, p, what));
                }
                break;
            default:
                due("drawn(" + times + ", " + seed + ", " + what + ")", x.drawn(times, seed, what),
                        m.drawn(times, seed, what));
                break;
        }
    }
}
