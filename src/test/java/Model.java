import java.math.BigInteger;
import java.util.ArrayList;
import java.util.Arrays;
import java.util.HashMap;
import java.util.List;
import java.util.Map;
import java.util.TreeMap;
import java.util.TreeSet;

/**
 * The document once more, by other means than the class: lists, sets and all ways gone through one by one.
 * Tests hold the class's answers against it.
 */
final class Model {
    static final int NONE = -1000000, BAD = -1000001, STATE = -1000002, FULL = -1000003;

    /** A PAGE: KIND, SLANT, HEIGHT, WIDTH. */
    record Page(int kind, int slant, int height, int width) {
        Page with(int which, int v) {
            return new Page(kind, which == 0 ? v : slant, which == 1 ? v : height, which == 2 ? v : width);
        }

        Page as(int other) {
            return new Page(other, slant, height, width);
        }

        int measure(int which) {
            return which == 0 ? slant : which == 1 ? height : width;
        }

        int gives(Page other) {
            int s = Math.abs(slant - other.slant);
            int h = Math.abs(height - other.height);
            int w = Math.abs(width - other.width);
            int most = Math.max(s, Math.max(h, w));
            return switch (kind) {
                case 1 -> s + h + w;
                case 2 -> s + h;
                case 3 -> s + h / 2 + w;
                case 4 -> most;
                default -> most + 5;
            };
        }
    }

    record Book(List<Page> pages, int limit, int change) {
        int apart(int a, int b) {
            return Math.min(pages.get(a).gives(pages.get(b)), pages.get(b).gives(pages.get(a)));
        }

        int spread(List<Integer> set) {
            int most = 0;
            for (int a : set) {
                for (int b : set) {
                    if (a < b) {
                        most = Math.max(most, apart(a, b));
                    }
                }
            }
            return most;
        }

        Book replaced(int page, Page by) {
            List<Page> others = new ArrayList<>(pages);
            others.set(page, by);
            return new Book(others, limit, change);
        }

        Book limited(int other) {
            return new Book(pages, other, change);
        }
    }

    private final int[][] rows = new int[8][];
    private final int[] lanes = new int[8];
    private final StringBuilder tape = new StringBuilder();
    private Book book = null;
    private final List<Book> acts = new ArrayList<>();
    private final Book[] images = new Book[2];
    private int fault = 0;
    private int status = 0;
    private List<Integer> trace = new ArrayList<>();
    private static final Map<Book, List<Integer>> knownHands = new HashMap<>();

    // ---- rows

    private int finds(int number) {
        status = number;
        return -1000010 - number;
    }

    private static boolean in(int v, int low, int high) {
        return v >= low && v <= high;
    }

    int row(int row, int lane, int n) {
        if (!in(row, 0, 7) || !in(lane, 0, 2) || n > 40) {
            return BAD;
        }
        if (n < 0) {
            return finds(4);
        }
        rows[row] = new int[n];
        lanes[row] = lane;
        status = 0;
        return n;
    }

    int set(int row, int i, int v) {
        if (!in(row, 0, 7)) {
            return BAD;
        }
        if (rows[row] == null) {
            return finds(1);
        }
        if (!in(i, 0, rows[row].length - 1)) {
            return finds(2);
        }
        int bits = new int[] {24, 16, 0}[lanes[row]];
        rows[row][i] = v << bits >> bits;
        status = 0;
        return rows[row][i];
    }

    int copy(int a, int i, int b, int j, int n) {
        if (!in(a, 0, 7) || !in(b, 0, 7)) {
            return BAD;
        }
        if (rows[a] == null || rows[b] == null) {
            return finds(1);
        }
        if (lanes[a] != lanes[b]) {
            return finds(5);
        }
        if (i < 0 || j < 0 || n < 0 || (long) i + n > rows[a].length || (long) j + n > rows[b].length) {
            return finds(2);
        }
        int[] ahead = rows[a].clone();
        for (int k = 0; k < n; k++) {
            rows[b][j + k] = ahead[i + k];
        }
        status = 0;
        return n;
    }

    int drop(int row) {
        if (!in(row, 0, 7)) {
            return BAD;
        }
        if (rows[row] == null) {
            return finds(1);
        }
        int had = rows[row].length;
        rows[row] = null;
        status = 0;
        return had;
    }

    // ---- what is told

    int feed(int letter) {
        if (!in(letter, 0, 255)) {
            return BAD;
        }
        if (tape.length() == 130) {
            return FULL;
        }
        tape.append((char) letter);
        return tape.length();
    }

    /** A TOKEN: where it begins and its text; "" is the end. */
    private record Token(int place, String text) {
        boolean isNumber() {
            return text.matches("[0-9]{1,2}");
        }
    }

    private static List<Token> tokens(String text) {
        List<Token> all = new ArrayList<>();
        int at = 0;
        while (at < text.length()) {
            int end = at + 1;
            if (text.substring(at, end).matches("[0-9]")) {
                while (end < text.length() && text.substring(end, end + 1).matches("[0-9]")) {
                    end++;
                }
            }
            all.add(new Token(at, text.substring(at, end)));
            at = end;
        }
        all.add(new Token(text.length(), ""));
        return all;
    }

    int book() {
        List<Token> all = tokens(tape.toString());
        tape.setLength(0);
        List<Integer> numbers = new ArrayList<>();
        List<Page> pages = new ArrayList<>();
        String law = "h#,#;";
        String page = "@#,#,#;";
        int kind = 0;
        for (int i = 0; i < all.size(); i++) {
            Token token = all.get(i);
            boolean inLaw = i < 5;
            int step = inLaw ? i : (i - 5) % 7;
            if (!inLaw && step == 0 && pages.size() > 0 && token.text().isEmpty()) {
                book = new Book(pages, numbers.get(0), numbers.get(1));
                acts.clear();
                return pages.size();
            }
            char want = (inLaw ? law : page).charAt(step);
            int wrong = 0;
            if (want == '#') {
                int most = !inLaw ? 30 : step == 1 ? 60 : 20;
                if (!token.isNumber()) {
                    wrong = 1;
                } else if (Integer.parseInt(token.text()) > most) {
                    wrong = 2;
                } else {
                    numbers.add(Integer.parseInt(token.text()));
                }
            } else if (want == '@') {
                kind = token.text().isEmpty() ? 0 : " pfrcg".indexOf(token.text());
                if (kind < 1 || token.text().length() != 1) {
                    wrong = 1;
                } else if (pages.size() == 10) {
                    wrong = 3;
                }
            } else if (!token.text().equals("" + want)) {
                wrong = 1;
            }
            if (wrong != 0) {
                fault = wrong;
                return -1000100 - token.place();
            }
            if (!inLaw && step == 6) {
                int n = numbers.size();
                pages.add(new Page(kind, numbers.get(n - 3), numbers.get(n - 2), numbers.get(n - 1)));
            }
        }
        throw new IllegalStateException("the end is a token that ends it");
    }

    int fault() {
        return fault;
    }

    int undo() {
        if (acts.isEmpty()) {
            return STATE;
        }
        book = acts.remove(acts.size() - 1);
        return acts.size();
    }

    // ---- what is done

    private void act(List<Page> pages, int limit, int change) {
        acts.add(book);
        if (acts.size() > 24) {
            acts.remove(0);
        }
        book = new Book(pages, limit, change);
    }

    private void act(List<Page> pages) {
        act(pages, book.limit(), book.change());
    }

    private int many() {
        return book == null ? 0 : book.pages().size();
    }

    private boolean isPage(int page) {
        return in(page, 0, many() - 1);
    }

    int put(int place, int kind, int slant, int height, int width) {
        if (book == null) {
            return STATE;
        }
        if (!in(place, 0, many()) || !in(kind, 1, 5) || !in(slant, 0, 30) || !in(height, 0, 30) || !in(width, 0, 30)) {
            return BAD;
        }
        if (many() == 10) {
            return FULL;
        }
        List<Page> pages = new ArrayList<>(book.pages());
        pages.add(place, new Page(kind, slant, height, width));
        act(pages);
        return many();
    }

    int take(int page) {
        if (!isPage(page)) {
            return BAD;
        }
        if (many() == 1) {
            return STATE;
        }
        List<Page> pages = new ArrayList<>(book.pages());
        pages.remove(page);
        act(pages);
        return many();
    }

    int move(int page, int place) {
        if (!isPage(page) || !isPage(place)) {
            return BAD;
        }
        if (page == place) {
            return STATE;
        }
        List<Page> pages = new ArrayList<>(book.pages());
        Page moved = pages.remove(page);
        pages.add(place, moved);
        act(pages);
        return moved.kind();
    }

    int measure(int page, int which, int v) {
        if (!isPage(page) || !in(which, 0, 2) || !in(v, 0, 30)) {
            return BAD;
        }
        int was = book.pages().get(page).measure(which);
        act(book.replaced(page, book.pages().get(page).with(which, v)).pages());
        return was;
    }

    int become(int page, int kind) {
        if (!isPage(page) || !in(kind, 1, 5)) {
            return BAD;
        }
        int was = book.pages().get(page).kind();
        if (was == kind) {
            return STATE;
        }
        act(book.replaced(page, book.pages().get(page).as(kind)).pages());
        return was;
    }

    int law(int which, int v) {
        if (book == null) {
            return STATE;
        }
        if (!(which == 0 && in(v, 0, 60)) && !(which == 1 && in(v, 0, 20))) {
            return BAD;
        }
        int was = which == 0 ? book.limit() : book.change();
        act(book.pages(), which == 0 ? v : book.limit(), which == 1 ? v : book.change());
        return was;
    }

    int page(int page, int what) {
        if (!isPage(page) || !in(what, 0, 6)) {
            return BAD;
        }
        return switch (what) {
            case 3 -> groups(book).stream().filter(g -> g.contains(page)).findFirst().orElseThrow().first();
            case 4 -> hands(book).get(page);
            case 5 -> inDoubt(page) ? 1 : 0;
            case 6 -> runOf(page);
            default -> book.pages().get(page).measure(what);
        };
    }

    int apart(int a, int b) {
        return isPage(a) && isPage(b) && a != b ? book.apart(a, b) : BAD;
    }

    int spread(int set) {
        if (book == null) {
            return STATE;
        }
        if (set <= 0 || set > (1 << many()) - 1) {
            return BAD;
        }
        return book.spread(ofBits(set));
    }

    private static List<Integer> ofBits(int set) {
        List<Integer> all = new ArrayList<>();
        for (int i = 0; i < 31; i++) {
            if ((set & (1 << i)) != 0) {
                all.add(i);
            }
        }
        return all;
    }

    // ---- what is found

    private static List<TreeSet<Integer>> groups(Book book) {
        List<TreeSet<Integer>> all = new ArrayList<>();
        for (int i = 0; i < book.pages().size(); i++) {
            all.add(new TreeSet<>(List.of(i)));
        }
        while (true) {
            all.sort((a, b) -> a.first() - b.first());
            TreeMap<Integer, int[]> bySpread = new TreeMap<>();
            for (int a = 0; a < all.size(); a++) {
                for (int b = a + 1; b < all.size(); b++) {
                    List<Integer> both = new ArrayList<>(all.get(a));
                    both.addAll(all.get(b));
                    bySpread.putIfAbsent(book.spread(both), new int[] {a, b});
                }
            }
            if (bySpread.isEmpty() || bySpread.firstKey() > book.limit()) {
                return all;
            }
            int[] pair = bySpread.firstEntry().getValue();
            all.get(pair[0]).addAll(all.get(pair[1]));
            all.remove(pair[1]);
        }
    }

    /** All ways to number PAGES, the first by their numbers first; kept is the first that has fewer than those before. */
    private static List<Integer> hands(Book book) {
        return knownHands.computeIfAbsent(new Book(book.pages(), book.limit(), 0), b -> {
            List<List<Integer>> best = new ArrayList<>();
            number(b, new ArrayList<>(), 0, best);
            return best.get(0);
        });
    }

    private static void number(Book book, List<Integer> sofar, int used, List<List<Integer>> best) {
        if (sofar.size() == book.pages().size()) {
            if (best.isEmpty() || used < handsIn(best.get(0))) {
                best.clear();
                best.add(new ArrayList<>(sofar));
            }
            return;
        }
        int page = sofar.size();
        for (int hand = 0; hand <= used; hand++) {
            boolean near = true;
            for (int other = 0; other < page; other++) {
                near &= sofar.get(other) != hand || book.apart(other, page) <= book.limit();
            }
            if (near) {
                sofar.add(hand);
                number(book, sofar, Math.max(used, hand + 1), best);
                sofar.remove(page);
            }
        }
    }

    private static int handsIn(List<Integer> hands) {
        return (int) hands.stream().distinct().count();
    }

    private List<Integer> pagesOf(int hand) {
        List<Integer> all = new ArrayList<>();
        for (int i = 0; i < many(); i++) {
            if (hands(book).get(i) == hand) {
                all.add(i);
            }
        }
        return all;
    }

    private boolean inDoubt(int page) {
        for (int hand = 0; hand < handsIn(hands(book)); hand++) {
            if (hands(book).get(page) != hand) {
                List<Integer> with = pagesOf(hand);
                with.add(page);
                if (spreadOfAny(with) <= book.limit()) {
                    return true;
                }
            }
        }
        return false;
    }

    private int spreadOfAny(List<Integer> set) {
        List<Integer> sorted = new ArrayList<>(set);
        sorted.sort(null);
        return book.spread(sorted);
    }

    /** Lengths of RUNS: all ways, held against each other by weight, number, then lengths. */
    private List<Integer> runs() {
        List<Integer> best = null;
        for (int cuts = 0; cuts < 1 << (many() - 1); cuts++) {
            List<Integer> lengths = new ArrayList<>();
            int length = 0;
            for (int page = 0; page < many(); page++) {
                length++;
                if (page == many() - 1 || (cuts & (1 << page)) != 0) {
                    lengths.add(length);
                    length = 0;
                }
            }
            if (best == null || isAhead(lengths, best)) {
                best = lengths;
            }
        }
        return best;
    }

    private boolean isAhead(List<Integer> a, List<Integer> b) {
        if (weight(a) != weight(b)) {
            return weight(a) < weight(b);
        }
        if (a.size() != b.size()) {
            return a.size() < b.size();
        }
        return Arrays.compare(a.stream().mapToInt(i -> i).toArray(), b.stream().mapToInt(i -> i).toArray()) < 0;
    }

    private int weight(List<Integer> lengths) {
        int weight = (lengths.size() - 1) * book.change();
        int first = 0;
        for (int length : lengths) {
            weight += book.spread(from(first, length));
            first += length;
        }
        return weight;
    }

    private static List<Integer> from(int first, int length) {
        List<Integer> all = new ArrayList<>();
        for (int i = first; i < first + length; i++) {
            all.add(i);
        }
        return all;
    }

    private int runOf(int page) {
        int behind = 0;
        List<Integer> lengths = runs();
        for (int run = 0; run < lengths.size(); run++) {
            behind += lengths.get(run);
            if (page < behind) {
                return run;
            }
        }
        throw new IllegalStateException("a PAGE is in a RUN");
    }

    private String written() {
        List<String> texts = new ArrayList<>();
        for (int hand = 0; hand < handsIn(hands(book)); hand++) {
            List<String> pages = new ArrayList<>();
            for (int page : pagesOf(hand)) {
                pages.add(page + (inDoubt(page) ? "?" : ""));
            }
            texts.add((char) ('A' + hand) + String.join(",", pages));
        }
        List<String> firsts = new ArrayList<>();
        int first = 0;
        for (int length : runs()) {
            if (first > 0) {
                firsts.add("" + first);
            }
            first += length;
        }
        return String.join(";", texts) + "/" + String.join(",", firsts);
    }

    int whole(int what) {
        if (book == null) {
            return STATE;
        }
        return switch (what) {
            case 0 -> handsIn(hands(book));
            case 1 -> (int) from(0, many()).stream().filter(this::inDoubt).count();
            case 2 -> runs().size();
            case 3 -> weight(runs());
            case 4 -> groups(book).size();
            case 5 -> book.spread(from(0, many()));
            case 6 -> book.limit();
            case 7 -> book.change();
            case 8 -> written().length();
            default -> BAD;
        };
    }

    int hand(int hand, int what) {
        if (book == null || !in(hand, 0, handsIn(hands(book)) - 1) || !in(what, 0, 2)) {
            return BAD;
        }
        List<Integer> pages = pagesOf(hand);
        if (what == 0) {
            return pages.stream().mapToInt(p -> 1 << p).sum();
        }
        if (what == 1) {
            return book.spread(pages);
        }
        TreeMap<Integer, Integer> byFurthest = new TreeMap<>();
        for (int page : pages) {
            int far = pages.stream().filter(p -> p != page).mapToInt(p -> book.apart(p, page)).max().orElse(0);
            byFurthest.putIfAbsent(far, page);
        }
        return byFurthest.firstEntry().getValue();
    }

    int run(int run, int what) {
        if (book == null || !in(run, 0, runs().size() - 1) || !in(what, 0, 2)) {
            return BAD;
        }
        int first = runs().subList(0, run).stream().mapToInt(i -> i).sum();
        int length = runs().get(run);
        return what == 0 ? first : what == 1 ? length : book.spread(from(first, length));
    }

    int sign(int i) {
        if (book == null) {
            return STATE;
        }
        if (i < 0) {
            return BAD;
        }
        String text = written();
        return i < text.length() ? text.charAt(i) : NONE;
    }

    int say() {
        String word = tape.toString();
        tape.setLength(0);
        if (book == null) {
            return STATE;
        }
        int what = List.of("hands", "doubts", "runs", "weight", "groups", "spread", "limit", "change").indexOf(word);
        return what >= 0 ? whole(what) : word.equals("pages") ? many() : NONE;
    }

    // ---- foretold

    int without(int page) {
        if (!isPage(page)) {
            return BAD;
        }
        if (many() == 1) {
            return STATE;
        }
        List<Page> pages = new ArrayList<>(book.pages());
        pages.remove(page);
        return handsIn(hands(new Book(pages, book.limit(), 0)));
    }

    int least(int v) {
        if (book == null) {
            return STATE;
        }
        if (!in(v, 1, 10)) {
            return BAD;
        }
        for (int limit = 0; limit <= 200; limit++) {
            if (fewest(book.limited(limit), from(0, many()), new HashMap<>()) <= v) {
                return limit;
            }
        }
        return NONE;
    }

    int pairs(int page) {
        if (!isPage(page)) {
            return BAD;
        }
        int bits = 0;
        for (int other = 0; other < many(); other++) {
            if (other != page && book.apart(page, other) <= book.limit()) {
                bits += 1 << other;
            }
        }
        return bits;
    }

    int who(int page, int which, int row, int i, int n) {
        if (!isPage(page) || !in(which, 0, 5) || !in(row, 0, 7) || !in(n, 1, many())) {
            return BAD;
        }
        if (rows[row] == null) {
            return finds(1);
        }
        if (i < 0 || (long) i + n > rows[row].length) {
            return finds(2);
        }
        status = 0;
        List<Integer> told = new ArrayList<>();
        for (int k = i; k < i + n; k++) {
            told.add(rows[row][k]);
        }
        List<Integer> so = new ArrayList<>();
        int low = which == 2 ? 1 : 0;
        int high = which < 2 ? 60 : which == 2 ? 5 : 30;
        for (int v = low; v <= high; v++) {
            Page it = book.pages().get(page);
            Book other = which < 2 ? book.limited(v)
                    : book.replaced(page, which == 2 ? it.as(v) : it.with(which - 3, v));
            if (hands(other).subList(0, n).equals(told)) {
                so.add(v);
            }
        }
        if (which == 0) {
            return so.size();
        }
        if (which == 1) {
            return so.isEmpty() ? NONE : so.get(0);
        }
        return so.stream().mapToInt(v -> 1 << v).sum();
    }

    /** The last PAGE with each set of others that will do. */
    private static int fewest(Book book, List<Integer> set, Map<List<Integer>, Integer> known) {
        if (set.isEmpty()) {
            return 0;
        }
        Integer before = known.get(set);
        if (before != null) {
            return before;
        }
        int last = set.get(set.size() - 1);
        int best = Integer.MAX_VALUE;
        for (int with = 0; with < 1 << (set.size() - 1); with++) {
            List<Integer> one = new ArrayList<>();
            List<Integer> rest = new ArrayList<>();
            for (int k = 0; k < set.size() - 1; k++) {
                ((with & (1 << k)) != 0 ? one : rest).add(set.get(k));
            }
            one.add(last);
            if (book.spread(one) <= book.limit()) {
                best = Math.min(best, 1 + fewest(book, rest, known));
            }
        }
        known.put(set, best);
        return best;
    }

    long lost(int v, int p, int what) {
        if (book == null) {
            return STATE;
        }
        if (!in(v, 0, 10) || !in(p, 0, 10) || !in(what, 0, 1)) {
            return BAD;
        }
        BigInteger above = BigInteger.ZERO;
        Map<List<Integer>, Integer> known = new HashMap<>();
        for (int left = 0; left < 1 << many(); left++) {
            if (fewest(book, ofBits(left), known) <= v) {
                BigInteger cases = BigInteger.ONE;
                for (int page = 0; page < many(); page++) {
                    cases = cases.multiply(BigInteger.valueOf((left & (1 << page)) != 0 ? 10 - p : p));
                }
                above = above.add(cases);
            }
        }
        BigInteger below = BigInteger.TEN.pow(many());
        BigInteger shared = above.gcd(below);
        return (what == 0 ? above : below).divide(shared).longValueExact();
    }

    int drawn(int n, int seed, int what) {
        if (book == null) {
            return STATE;
        }
        if (!in(n, 0, 20) || !in(seed, 1, 999999) || !in(what, 0, 1)) {
            return BAD;
        }
        BigInteger x = BigInteger.valueOf(seed);
        Book drawn = book;
        int together = 0;
        for (int i = 0; i < n; i++) {
            x = x.multiply(BigInteger.valueOf(16807)).mod(BigInteger.valueOf(2147483647));
            int now = x.intValueExact();
            int page = now % many();
            drawn = drawn.replaced(page, drawn.pages().get(page).with(now / 16 % 3, now / 64 % 31));
            together += handsIn(hands(drawn));
        }
        return what == 0 ? together : drawn.spread(from(0, many()));
    }

    int image(int k) {
        if (!in(k, 0, 1)) {
            return BAD;
        }
        if (book == null) {
            return STATE;
        }
        images[k] = book;
        return 1;
    }

    int restore(int k) {
        if (!in(k, 0, 1)) {
            return BAD;
        }
        if (images[k] == null) {
            return STATE;
        }
        book = images[k];
        acts.clear();
        return 1;
    }

    // ---- asked: by classes, as the KINDS of PAGES are told

    int kind(int one) {
        return isPage(one) ? book.pages().get(one).kind() : BAD;
    }

    int as(int one, int kind) {
        if (!isPage(one) || !in(kind, 0, 5)) {
            return BAD;
        }
        Class<?>[] kinds = {Asked.class, Plain.class, Faded.class, Ruled.class, Copy.class, Forged.class};
        if (!kinds[kind].isInstance(asked(one))) {
            return finds(3);
        }
        status = 0;
        return one;
    }

    int ask(int one, int what) {
        if (!isPage(one) || !in(what, 0, 1)) {
            return BAD;
        }
        trace = new ArrayList<>();
        return what == 0 ? asked(one).size() : asked(one).mark();
    }

    int trace(int i) {
        return in(i, 0, Math.min(trace.size(), 16) - 1) ? trace.get(i) : NONE;
    }

    int count(int what) {
        return switch (what) {
            case 0 -> (int) Arrays.stream(rows).filter(r -> r != null).count();
            case 1 -> many();
            case 2, 3, 4 -> from(0, many()).stream().mapToInt(p -> book.pages().get(p).measure(what - 2)).sum();
            case 5 -> acts.size();
            case 6 -> tape.length();
            default -> BAD;
        };
    }

    int status() {
        return status;
    }

    private Asked asked(int one) {
        int slant = book.pages().get(one).slant();
        int hand = hands(book).get(one);
        return switch (book.pages().get(one).kind()) {
            case 1 -> new Plain(this, one, slant, hand);
            case 2 -> new Faded(this, one, slant, hand);
            case 3 -> new Ruled(this, one, slant, hand);
            case 4 -> new Copy(this, one, slant, hand);
            default -> new Forged(this, one, slant, hand);
        };
    }

    private static class Asked {
        final Model model;
        final int number;
        final int slant;
        final int hand;

        Asked(Model model, int number, int slant, int hand) {
            this.model = model;
            this.number = number;
            this.slant = slant;
            this.hand = hand;
        }

        int size() {
            model.trace.add(10);
            return slant;
        }

        int mark() {
            model.trace.add(20);
            return number;
        }
    }

    private static class Plain extends Asked {
        Plain(Model model, int number, int slant, int hand) {
            super(model, number, slant, hand);
        }

        @Override int size() {
            model.trace.add(11);
            return super.size() + mark();
        }

        @Override int mark() {
            model.trace.add(21);
            return super.mark() + hand;
        }
    }

    private static final class Faded extends Plain {
        Faded(Model model, int number, int slant, int hand) {
            super(model, number, slant, hand);
        }

        @Override int size() {
            model.trace.add(12);
            return 0 - super.size();
        }

        @Override int mark() {
            model.trace.add(24);
            return 2 * super.mark();
        }
    }

    private static final class Ruled extends Plain {
        Ruled(Model model, int number, int slant, int hand) {
            super(model, number, slant, hand);
        }

        @Override int mark() {
            model.trace.add(22);
            return super.mark() - 1000;
        }
    }

    private static class Copy extends Asked {
        Copy(Model model, int number, int slant, int hand) {
            super(model, number, slant, hand);
        }

        @Override int size() {
            model.trace.add(13);
            return super.size() - 100;
        }

        @Override int mark() {
            model.trace.add(23);
            return super.mark() - size();
        }
    }

    private static final class Forged extends Copy {
        Forged(Model model, int number, int slant, int hand) {
            super(model, number, slant, hand);
        }

        @Override int size() {
            model.trace.add(14);
            return 2 * super.size();
        }
    }

    static void forget() {
        knownHands.clear();
    }
}
