/** Counts answers that are not as due; what every test of the project ends with. */
final class Check {
    private final String name;
    private int asked = 0;
    private int wrong = 0;

    Check(String name) {
        this.name = name;
    }

    void due(String call, long got, long want) {
        asked++;
        if (got != want) {
            wrong++;
            if (wrong <= 40) {
                System.out.println(name + ": " + call + " answered " + got + ", due is " + want);
            }
        }
    }

    void holds(String what, boolean so) {
        due(what, so ? 1 : 0, 1);
    }

    int wrongOnes() {
        return wrong;
    }

    /** Ends the program: exit code 1 if an answer was not as due. */
    void finish() {
        System.out.println(name + ": " + asked + " answers, " + wrong + " not as due");
        if (wrong != 0 || asked == 0) {
            System.exit(1);
        }
    }

    static void feed(HandsInBook x, String text) {
        for (int i = 0; i < text.length(); i++) {
            x.feed(text.charAt(i));
        }
    }

    static HandsInBook told(String text) {
        HandsInBook x = new HandsInBook();
        feed(x, text);
        x.book();
        return x;
    }

    static int word(HandsInBook x, String word) {
        feed(x, word);
        return x.say();
    }

    static String written(HandsInBook x) {
        StringBuilder text = new StringBuilder();
        for (int i = 0; x.sign(i) >= 0; i++) {
            text.append((char) x.sign(i));
        }
        return text.toString();
    }

    static String traced(HandsInBook x) {
        StringBuilder text = new StringBuilder();
        for (int i = 0; x.trace(i) >= 0; i++) {
            text.append(i == 0 ? "" : " ").append(x.trace(i));
        }
        return text.toString();
    }

    /** All PAGES, LIMIT and CHANGE, so that two states of a BOOK can be held against each other. */
    static String state(HandsInBook x) {
        StringBuilder text = new StringBuilder();
        text.append(x.whole(6)).append('/').append(x.whole(7));
        for (int page = 0; page < x.count(1); page++) {
            text.append(' ').append(x.kind(page));
            for (int which = 0; which < 3; which++) {
                text.append(',').append(x.page(page, which));
            }
        }
        return text.toString();
    }
}
