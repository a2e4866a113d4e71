import java.util.Arrays;

/** Hands in a book: who wrote which page, as ../shared/DOC.md promises it. */
public final class HandsInBook {
    public static final int NONE = -1000000, BAD = -1000001, STATE = -1000002, FULL = -1000003;

    private static final int FINDINGS = -1000010, FAULTS = -1000100;
    private static final int ROW_MISSING = 1, NO_PLACE = 2, OTHER_KIND = 3, BELOW_NONE = 4, TWO_LANES = 5;
    private static final int CANNOT_STAND = 1, NOT_AS_TOLD = 2, NO_ROOM = 3;

    private static final int MOST_ROWS = 8, MOST_ITEMS = 40, MOST_BYTES = 130, MOST_PAGES = 10;
    private static final int MOST_ACTS = 24, MOST_SIGNS = 64, MOST_TRACED = 16, MOST_IMAGES = 2;
    private static final int MOST_LIMIT = 60, MOST_CHANGE = 20, MOST_MEASURE = 30, MOST_FORETOLD_LIMIT = 200;
    private static final int MOST_DRAWS = 20, MOST_SEED = 999999, MOST_CASES = 10;

    private static final int BYTES = 0, SHORTS = 1, INTS = 2;
    private static final int SLANT = 0, HEIGHT = 1, WIDTH = 2;
    private static final int PLAIN = 1, FADED = 2, RULED = 3, COPY = 4, FORGED = 5;
    /** What each KIND is, too; a PAGE (0) is nothing else. */
    private static final int[] NEAREST_KIND = {-1, 0, 1, 1, 0, 4};

    private final Rows rows = new Rows();
    private final Tape tape = new Tape();
    private final Reader reader = new Reader();
    private final Book current = new Book();
    private final Acts acts = new Acts();
    private final Book[] images = new Book[MOST_IMAGES];
    private final Found found = new Found();
    private final Foretold foretold = new Foretold();
    private final Asks asks = new Asks();
    /** Whether what is found is that of the BOOK as it is now. */
    private boolean fresh = false;
    private int latestFault = 0;
    private int finding = 0;

    public HandsInBook() {
        for (int k = 0; k < MOST_IMAGES; k++) {
            images[k] = new Book();
        }
    }

    // ---- rows

    public int row(int row, int lane, int n) {
        if (!isRow(row) || lane < BYTES || lane > INTS || n > MOST_ITEMS) {
            return BAD;
        }
        if (n < 0) {
            return finds(BELOW_NONE);
        }
        finding = 0;
        rows.lay(row, lane, n);
        return n;
    }

    public int set(int row, int i, int v) {
        if (!isRow(row)) {
            return BAD;
        }
        if (rows.isMissing(row)) {
            return finds(ROW_MISSING);
        }
        if (!rows.holds(row, i, 1)) {
            return finds(NO_PLACE);
        }
        finding = 0;
        return rows.write(row, i, v);
    }

    public int copy(int a, int i, int b, int j, int n) {
        if (!isRow(a) || !isRow(b)) {
            return BAD;
        }
        if (rows.isMissing(a) || rows.isMissing(b)) {
            return finds(ROW_MISSING);
        }
        if (rows.lanes[a] != rows.lanes[b]) {
            return finds(TWO_LANES);
        }
        if (!rows.holds(a, i, n) || !rows.holds(b, j, n)) {
            return finds(NO_PLACE);
        }
        finding = 0;
        System.arraycopy(rows.items[a], i, rows.items[b], j, n);
        return n;
    }

    public int drop(int row) {
        if (!isRow(row)) {
            return BAD;
        }
        if (rows.isMissing(row)) {
            return finds(ROW_MISSING);
        }
        finding = 0;
        return rows.lose(row);
    }

    // ---- what is told

    public int feed(int letter) {
        if (letter < 0 || letter > 255) {
            return BAD;
        }
        if (tape.length >= MOST_BYTES) {
            return FULL;
        }
        return tape.add(letter);
    }

    public int book() {
        boolean isRead = reader.reads(tape);
        tape.length = 0;
        if (!isRead) {
            latestFault = reader.fault;
            return FAULTS - reader.at;
        }
        begin(reader.draft);
        return current.pages;
    }

    public int fault() {
        return latestFault;
    }

    public int undo() {
        if (acts.many == 0) {
            return STATE;
        }
        acts.goBack(current);
        fresh = false;
        return acts.many;
    }

    // ---- what is done

    public int put(int place, int kind, int slant, int height, int width) {
        if (isWithoutBook()) {
            return STATE;
        }
        if (place < 0 || place > current.pages || !isKindOfPage(kind)
                || !isMeasure(slant) || !isMeasure(height) || !isMeasure(width)) {
            return BAD;
        }
        if (current.pages >= MOST_PAGES) {
            return FULL;
        }
        beginAct();
        current.insert(place, kind, slant, height, width);
        return current.pages;
    }

    public int take(int page) {
        if (!isPage(page)) {
            return BAD;
        }
        if (current.pages == 1) {
            return STATE;
        }
        beginAct();
        current.cut(page);
        return current.pages;
    }

    public int move(int page, int place) {
        if (!isPage(page) || !isPage(place)) {
            return BAD;
        }
        if (page == place) {
            return STATE;
        }
        beginAct();
        current.carry(page, place);
        return current.kinds[place];
    }

    public int measure(int page, int which, int v) {
        if (!isPage(page) || which < SLANT || which > WIDTH || !isMeasure(v)) {
            return BAD;
        }
        beginAct();
        int was = current.measures[which][page];
        current.measures[which][page] = v;
        return was;
    }

    public int become(int page, int kind) {
        if (!isPage(page) || !isKindOfPage(kind)) {
            return BAD;
        }
        int was = current.kinds[page];
        if (was == kind) {
            return STATE;
        }
        beginAct();
        current.kinds[page] = kind;
        return was;
    }

    public int law(int which, int v) {
        if (isWithoutBook()) {
            return STATE;
        }
        if (which < 0 || which > 1 || v < 0 || v > (which == 0 ? MOST_LIMIT : MOST_CHANGE)) {
            return BAD;
        }
        beginAct();
        int was = which == 0 ? current.limit : current.change;
        if (which == 0) {
            current.limit = v;
        } else {
            current.change = v;
        }
        return was;
    }

    public int page(int page, int what) {
        if (!isPage(page) || what < 0 || what > 6) {
            return BAD;
        }
        if (what <= WIDTH) {
            return current.measures[what][page];
        }
        look();
        switch (what) {
            case 3:
                return found.groupOf[page];
            case 4:
                return found.hands.handOf[page];
            case 5:
                return (found.doubts >> page) & 1;
            default:
                return found.runs.runOf[page];
        }
    }

    public int apart(int a, int b) {
        if (!isPage(a) || !isPage(b) || a == b) {
            return BAD;
        }
        look();
        return found.hands.gaps.gap[a][b];
    }

    public int spread(int set) {
        if (isWithoutBook()) {
            return STATE;
        }
        if (set < 1 || set >= 1 << current.pages) {
            return BAD;
        }
        look();
        return found.hands.gaps.widest(set);
    }

    // ---- what is found

    public int whole(int what) {
        if (isWithoutBook()) {
            return STATE;
        }
        if (what < 0 || what > 8) {
            return BAD;
        }
        look();
        return answer(what);
    }

    public int hand(int hand, int what) {
        look();
        if (hand < 0 || hand >= found.hands.many || what < 0 || what > 2) {
            return BAD;
        }
        int pages = found.hands.pagesOf[hand];
        switch (what) {
            case 0:
                return pages;
            case 1:
                return found.hands.gaps.widest(pages);
            default:
                return found.hands.gaps.middle(pages);
        }
    }

    public int run(int run, int what) {
        look();
        if (run < 0 || run >= found.runs.many || what < 0 || what > 2) {
            return BAD;
        }
        int first = found.runs.firsts[run];
        int behind = found.runs.firsts[run + 1];
        switch (what) {
            case 0:
                return first;
            case 1:
                return behind - first;
            default:
                return found.hands.gaps.widest((1 << behind) - (1 << first));
        }
    }

    public int sign(int i) {
        if (isWithoutBook()) {
            return STATE;
        }
        if (i < 0) {
            return BAD;
        }
        look();
        return i < found.length ? found.written[i] : NONE;
    }

    public int say() {
        int what = isWithoutBook() ? STATE : tape.asks();
        tape.length = 0;
        if (what < 0) {
            return what;
        }
        look();
        return answer(what);
    }

    // ---- foretold

    public int without(int page) {
        if (!isPage(page)) {
            return BAD;
        }
        if (current.pages == 1) {
            return STATE;
        }
        return foretold.handsWithout(current, page);
    }

    public int least(int v) {
        if (isWithoutBook()) {
            return STATE;
        }
        if (v < 1 || v > MOST_PAGES) {
            return BAD;
        }
        return foretold.leastLimit(current, v);
    }

    public int pairs(int page) {
        if (!isPage(page)) {
            return BAD;
        }
        look();
        return found.hands.gaps.near[page] & ~(1 << page);
    }

    public int who(int page, int which, int row, int i, int n) {
        if (!isPage(page) || which < 0 || which > 5 || !isRow(row) || n < 1 || n > current.pages) {
            return BAD;
        }
        if (rows.isMissing(row)) {
            return finds(ROW_MISSING);
        }
        if (!rows.holds(row, i, n)) {
            return finds(NO_PLACE);
        }
        finding = 0;
        foretold.hear(rows.items[row], i, n);
        if (which == 2) {
            return foretold.kindsOf(current, page);
        }
        if (which > 2) {
            return foretold.numbersOf(current, page, which - 3);
        }
        long limits = foretold.limitsOf(current);
        if (which == 0) {
            return Long.bitCount(limits);
        }
        return limits == 0 ? NONE : Long.numberOfTrailingZeros(limits);
    }

    public long lost(int v, int p, int what) {
        if (isWithoutBook()) {
            return STATE;
        }
        if (v < 0 || v > MOST_PAGES || p < 0 || p > MOST_CASES || what < 0 || what > 1) {
            return BAD;
        }
        long above = foretold.goodCases(current, v, p);
        long below = power(MOST_CASES, current.pages);
        long shared = sharedDivisor(above, below);
        // Never so, but a divisor is looked at: 0 by 1.
        if (shared < 1) {
            return what;
        }
        return (what == 0 ? above : below) / shared;
    }

    public int drawn(int n, int seed, int what) {
        if (isWithoutBook()) {
            return STATE;
        }
        if (n < 0 || n > MOST_DRAWS || seed < 1 || seed > MOST_SEED || what < 0 || what > 1) {
            return BAD;
        }
        int together = foretold.draw(current, n, seed);
        return what == 0 ? together : foretold.spreadOfAll();
    }

    public int image(int k) {
        if (k < 0 || k >= MOST_IMAGES) {
            return BAD;
        }
        if (isWithoutBook()) {
            return STATE;
        }
        images[k].becomeLike(current);
        return 1;
    }

    public int restore(int k) {
        if (k < 0 || k >= MOST_IMAGES) {
            return BAD;
        }
        if (images[k].pages == 0) {
            return STATE;
        }
        begin(images[k]);
        return 1;
    }

    // ---- asked

    public int kind(int one) {
        return isPage(one) ? current.kinds[one] : BAD;
    }

    public int as(int one, int kind) {
        if (!isPage(one) || kind < 0 || kind > FORGED) {
            return BAD;
        }
        if (!isSuch(current.kinds[one], kind)) {
            return finds(OTHER_KIND);
        }
        finding = 0;
        return one;
    }

    public int ask(int one, int what) {
        if (!isPage(one) || what < 0 || what > 1) {
            return BAD;
        }
        look();
        asks.begin(current, one, found.hands.handOf[one]);
        return what == 0 ? asks.size() : asks.mark();
    }

    public int trace(int i) {
        return i >= 0 && i < asks.traced ? asks.numbers[i] : NONE;
    }

    public int count(int what) {
        switch (what) {
            case 0:
                return rows.laid();
            case 1:
                return current.pages;
            case 2:
            case 3:
            case 4:
                return current.together(what - 2);
            case 5:
                return acts.many;
            case 6:
                return tape.length;
            default:
                return BAD;
        }
    }

    public int status() {
        return finding;
    }

    // ---- what the calls share

    private static boolean isRow(int row) {
        return row >= 0 && row < MOST_ROWS;
    }

    private static boolean isMeasure(int v) {
        return v >= 0 && v <= MOST_MEASURE;
    }

    private static boolean isKindOfPage(int kind) {
        return kind >= PLAIN && kind <= FORGED;
    }

    private boolean isPage(int page) {
        return page >= 0 && page < current.pages;
    }

    /** A BOOK that is told has a PAGE at least, so one without any is none. */
    private boolean isWithoutBook() {
        return current.pages == 0;
    }

    private int finds(int number) {
        finding = number;
        return FINDINGS - number;
    }

    private void begin(Book other) {
        current.becomeLike(other);
        acts.forgetAll();
        fresh = false;
    }

    private void beginAct() {
        acts.keep(current);
        fresh = false;
    }

    private void look() {
        if (!fresh) {
            found.lookAt(current);
            fresh = true;
        }
    }

    private int answer(int what) {
        switch (what) {
            case 0:
                return found.hands.many;
            case 1:
                return Integer.bitCount(found.doubts);
            case 2:
                return found.runs.many;
            case 3:
                return found.runs.weights[0];
            case 4:
                return found.groups;
            case 5:
                return found.hands.gaps.widest((1 << current.pages) - 1);
            case 6:
                return current.limit;
            case 7:
                return current.change;
            case 8:
                return found.length;
            default:
                return current.pages;
        }
    }

    private static boolean isSuch(int kind, int wanted) {
        int one = kind;
        for (int step = 0; step <= FORGED && one >= 0 && one <= FORGED; step++) {
            if (one == wanted) {
                return true;
            }
            one = NEAREST_KIND[one];
        }
        return false;
    }

    private static long power(int base, int times) {
        long product = 1;
        for (int i = 0; i < times; i++) {
            product *= base;
        }
        return product;
    }

    private static long sharedDivisor(long a, long b) {
        long greater = b;
        long lesser = a;
        // A hundred steps are far more than Euclid needs below 10 to the 10th.
        for (int step = 0; step < 100 && lesser > 0; step++) {
            long rest = greater % lesser;
            greater = lesser;
            lesser = rest;
        }
        return greater;
    }

    /** ROWS keep all LANES as ints, cut when they are written, so that no call makes an array. */
    private static final class Rows {
        static final int MISSING = -1;
        final int[][] items = new int[MOST_ROWS][MOST_ITEMS];
        final int[] lanes = new int[MOST_ROWS];
        final int[] sizes = new int[MOST_ROWS];

        Rows() {
            Arrays.fill(sizes, MISSING);
        }

        boolean isMissing(int row) {
            return sizes[row] == MISSING;
        }

        boolean holds(int row, int i, int n) {
            return i >= 0 && n >= 0 && n <= sizes[row] && i <= sizes[row] - n;
        }

        void lay(int row, int lane, int n) {
            Arrays.fill(items[row], 0);
            lanes[row] = lane;
            sizes[row] = n;
        }

        int lose(int row) {
            int had = sizes[row];
            sizes[row] = MISSING;
            return had;
        }

        int write(int row, int i, int v) {
            int item = v;
            if (lanes[row] == BYTES) {
                item = (byte) v;
            } else if (lanes[row] == SHORTS) {
                item = (short) v;
            }
            items[row][i] = item;
            return item;
        }

        int laid() {
            int many = 0;
            for (int row = 0; row < MOST_ROWS; row++) {
                if (sizes[row] != MISSING) {
                    many++;
                }
            }
            return many;
        }
    }

    private static final class Tape {
        static final int END = -1, PAGES_ASKED = 9;
        final int[] bytes = new int[MOST_BYTES];
        int length = 0;

        int add(int letter) {
            if (length < MOST_BYTES) {
                bytes[length] = letter;
                length++;
            }
            return length;
        }

        int at(int place) {
            return place >= 0 && place < length ? bytes[place] : END;
        }

        int figuresAt(int place) {
            int many = 0;
            for (int i = place; i < length && at(i) >= '0' && at(i) <= '9'; i++) {
                many++;
            }
            return many;
        }

        boolean spells(String word) {
            if (word.length() != length) {
                return false;
            }
            for (int i = 0; i < length; i++) {
                if (bytes[i] != word.charAt(i)) {
                    return false;
                }
            }
            return true;
        }

        /** What the WORD asks, numbered as in whole(); NONE. */
        int asks() {
            if (spells("hands")) {
                return 0;
            } else if (spells("doubts")) {
                return 1;
            } else if (spells("runs")) {
                return 2;
            } else if (spells("weight")) {
                return 3;
            } else if (spells("groups")) {
                return 4;
            } else if (spells("spread")) {
                return 5;
            } else if (spells("limit")) {
                return 6;
            } else if (spells("change")) {
                return 7;
            }
            return spells("pages") ? PAGES_ASKED : NONE;
        }
    }

    /** Reads into a draft, since a BOOK with a FAULT must leave the one before as it is. */
    private static final class Reader {
        final Book draft = new Book();
        int at = 0;
        int fault = 0;

        boolean reads(Tape tape) {
            at = 0;
            draft.pages = 0;
            if (!readsLaw(tape)) {
                return false;
            }
            for (int page = 0; page <= MOST_PAGES; page++) {
                if (page > 0 && at == tape.length) {
                    return true;
                }
                if (!readsPage(tape)) {
                    return false;
                }
            }
            return false;
        }

        private boolean readsLaw(Tape tape) {
            if (!readsByte(tape, 'h')) {
                return false;
            }
            draft.limit = readNumber(tape, MOST_LIMIT);
            if (draft.limit < 0 || !readsByte(tape, ',')) {
                return false;
            }
            draft.change = readNumber(tape, MOST_CHANGE);
            return draft.change >= 0 && readsByte(tape, ';');
        }

        private boolean readsPage(Tape tape) {
            int kind = kindOfLetter(tape.at(at));
            if (kind == NONE) {
                return fails(CANNOT_STAND);
            }
            if (draft.pages >= MOST_PAGES) {
                return fails(NO_ROOM);
            }
            at++;
            int slant = readNumber(tape, MOST_MEASURE);
            if (slant < 0 || !readsByte(tape, ',')) {
                return false;
            }
            int height = readNumber(tape, MOST_MEASURE);
            if (height < 0 || !readsByte(tape, ',')) {
                return false;
            }
            int width = readNumber(tape, MOST_MEASURE);
            if (width < 0 || !readsByte(tape, ';')) {
                return false;
            }
            draft.insert(draft.pages, kind, slant, height, width);
            return true;
        }

        private boolean fails(int number) {
            fault = number;
            return false;
        }

        private boolean readsByte(Tape tape, char wanted) {
            if (tape.at(at) != wanted) {
                return fails(CANNOT_STAND);
            }
            at++;
            return true;
        }

        private int readNumber(Tape tape, int most) {
            int figures = tape.figuresAt(at);
            if (figures < 1 || figures > 2) {
                fails(CANNOT_STAND);
                return NONE;
            }
            int number = tape.at(at) - '0';
            if (figures == 2) {
                number = 10 * number + tape.at(at + 1) - '0';
            }
            if (number > most) {
                fails(NOT_AS_TOLD);
                return NONE;
            }
            at += figures;
            return number;
        }

        private static int kindOfLetter(int letter) {
            switch (letter) {
                case 'p':
                    return PLAIN;
                case 'f':
                    return FADED;
                case 'r':
                    return RULED;
                case 'c':
                    return COPY;
                case 'g':
                    return FORGED;
                default:
                    return NONE;
            }
        }
    }

    private static final class Book {
        int pages = 0;
        int limit = 0;
        int change = 0;
        final int[] kinds = new int[MOST_PAGES];
        final int[][] measures = new int[WIDTH + 1][MOST_PAGES];

        void becomeLike(Book other) {
            pages = other.pages;
            limit = other.limit;
            change = other.change;
            System.arraycopy(other.kinds, 0, kinds, 0, MOST_PAGES);
            for (int which = SLANT; which <= WIDTH; which++) {
                System.arraycopy(other.measures[which], 0, measures[which], 0, MOST_PAGES);
            }
        }

        void insert(int place, int kind, int slant, int height, int width) {
            if (place < 0 || place > pages || pages >= MOST_PAGES) {
                return;
            }
            for (int page = pages; page > place; page--) {
                overwrite(page, page - 1);
            }
            pages++;
            kinds[place] = kind;
            measures[SLANT][place] = slant;
            measures[HEIGHT][place] = height;
            measures[WIDTH][place] = width;
        }

        void cut(int place) {
            for (int page = place; page < pages - 1; page++) {
                overwrite(page, page + 1);
            }
            pages--;
        }

        void carry(int page, int place) {
            int kind = kinds[page];
            int slant = measures[SLANT][page];
            int height = measures[HEIGHT][page];
            int width = measures[WIDTH][page];
            cut(page);
            insert(place, kind, slant, height, width);
        }

        int together(int which) {
            int sum = 0;
            for (int page = 0; page < pages; page++) {
                sum += measures[which][page];
            }
            return sum;
        }

        private void overwrite(int page, int by) {
            kinds[page] = kinds[by];
            for (int which = SLANT; which <= WIDTH; which++) {
                measures[which][page] = measures[which][by];
            }
        }
    }

    /** Keeps the BOOK as it was ahead of each ACT, in a ring: the oldest gives way. */
    private static final class Acts {
        private final Book[] before = new Book[MOST_ACTS];
        private int oldest = 0;
        int many = 0;

        Acts() {
            for (int act = 0; act < MOST_ACTS; act++) {
                before[act] = new Book();
            }
        }

        void forgetAll() {
            many = 0;
        }

        void keep(Book book) {
            before[(oldest + many) % MOST_ACTS].becomeLike(book);
            if (many < MOST_ACTS) {
                many++;
            } else {
                oldest = (oldest + 1) % MOST_ACTS;
            }
        }

        void goBack(Book book) {
            if (many > 0) {
                many--;
                book.becomeLike(before[(oldest + many) % MOST_ACTS]);
            }
        }
    }

    /** How far PAGES lie APART, and which lie near one another by a limit. */
    private static final class Gaps {
        int pages = 0;
        final int[][] gap = new int[MOST_PAGES][MOST_PAGES];
        final int[] near = new int[MOST_PAGES];

        void survey(Book book) {
            pages = book.pages;
            for (int a = 0; a < pages; a++) {
                surveyFrom(book, a);
            }
        }

        void surveyFrom(Book book, int a) {
            for (int b = 0; b < pages; b++) {
                int far = a == b ? 0 : between(book, a, b);
                gap[a][b] = far;
                gap[b][a] = far;
            }
        }

        void markNear(int limit) {
            for (int a = 0; a < pages; a++) {
                near[a] = 0;
                for (int b = 0; b < pages; b++) {
                    if (gap[a][b] <= limit) {
                        near[a] |= 1 << b;
                    }
                }
            }
        }

        int widest(int set) {
            int wide = 0;
            for (int page = 0; page < pages; page++) {
                if (((set >> page) & 1) == 1) {
                    wide = Math.max(wide, furthest(page, set));
                }
            }
            return wide;
        }

        int furthest(int page, int set) {
            int far = 0;
            for (int other = 0; other < pages; other++) {
                if (((set >> other) & 1) == 1 && gap[page][other] > far) {
                    far = gap[page][other];
                }
            }
            return far;
        }

        /** The PAGE that STANDS FOR a set. */
        int middle(int set) {
            int best = NONE;
            int least = 0;
            for (int page = 0; page < pages; page++) {
                if (((set >> page) & 1) == 1) {
                    int far = furthest(page, set);
                    if (best == NONE || far < least) {
                        best = page;
                        least = far;
                    }
                }
            }
            return best;
        }

        private static int between(Book book, int a, int b) {
            int slants = Math.abs(book.measures[SLANT][a] - book.measures[SLANT][b]);
            int heights = Math.abs(book.measures[HEIGHT][a] - book.measures[HEIGHT][b]);
            int widths = Math.abs(book.measures[WIDTH][a] - book.measures[WIDTH][b]);
            return Math.min(given(book.kinds[a], slants, heights, widths),
                    given(book.kinds[b], slants, heights, widths));
        }

        private static int given(int kind, int slants, int heights, int widths) {
            int greatest = Math.max(slants, Math.max(heights, widths));
            switch (kind) {
                case FADED:
                    return slants + heights;
                case RULED:
                    return slants + heights / 2 + widths;
                case COPY:
                    return greatest;
                case FORGED:
                    return greatest + 5;
                default:
                    return slants + heights + widths;
            }
        }
    }

    private static final class Hands {
        final Gaps gaps = new Gaps();
        final int[] handOf = new int[MOST_PAGES];
        final int[] pagesOf = new int[MOST_PAGES];
        int many = 0;

        void findFor(int limit) {
            gaps.markNear(limit);
            many = 0;
            for (int most = wantedAtLeast(); most <= gaps.pages; most++) {
                if (areEnough(most)) {
                    return;
                }
            }
        }

        /** PAGES none of which lies near another want a HAND each: fewer need not be tried. */
        int wantedAtLeast() {
            int wanted = 1;
            for (int first = 0; first < gaps.pages; first++) {
                int lone = 1 << first;
                for (int page = 0; page < gaps.pages; page++) {
                    if ((gaps.near[page] & lone) == 0) {
                        lone |= 1 << page;
                    }
                }
                wanted = Math.max(wanted, Integer.bitCount(lone));
            }
            return wanted;
        }

        /** The numbers are tried from the least on, so the first that will do are the HANDS. */
        boolean areEnough(int most) {
            Arrays.fill(pagesOf, 0);
            return settles(0, 0, most);
        }

        private boolean settles(int page, int used, int most) {
            if (page >= gaps.pages || page >= MOST_PAGES) {
                many = used;
                return true;
            }
            for (int hand = 0; hand <= used && hand < most && hand < MOST_PAGES; hand++) {
                if (fits(page, hand)) {
                    handOf[page] = hand;
                    pagesOf[hand] |= 1 << page;
                    if (settles(page + 1, Math.max(used, hand + 1), most)) {
                        return true;
                    }
                    pagesOf[hand] &= ~(1 << page);
                }
            }
            return false;
        }

        boolean fits(int page, int hand) {
            return (pagesOf[hand] & ~gaps.near[page]) == 0;
        }
    }

    /** RUNS by a table from the last PAGE back: what the PAGES from each on weigh at least. */
    private static final class Runs {
        final int[] weights = new int[MOST_PAGES + 1];
        private final int[] fewest = new int[MOST_PAGES + 1];
        private final int[] nexts = new int[MOST_PAGES];
        final int[] firsts = new int[MOST_PAGES + 1];
        final int[] runOf = new int[MOST_PAGES];
        int many = 0;

        void find(Gaps gaps, int change) {
            weights[gaps.pages] = 0;
            fewest[gaps.pages] = 0;
            for (int first = gaps.pages - 1; first >= 0; first--) {
                weigh(gaps, change, first);
            }
            collect(gaps.pages);
        }

        private void weigh(Gaps gaps, int change, int first) {
            int wide = 0;
            for (int last = first; last < gaps.pages; last++) {
                int next = last + 1;
                wide = Math.max(wide, gaps.furthest(last, (1 << next) - (1 << first)));
                int weight = wide + weights[next] + (next < gaps.pages ? change : 0);
                int runs = fewest[next] + 1;
                boolean better = weight < weights[first] || weight == weights[first] && runs < fewest[first];
                // The shortest comes first, so one that is only as good does not take its place.
                if (last == first || better) {
                    weights[first] = weight;
                    fewest[first] = runs;
                    nexts[first] = next;
                }
            }
        }

        private void collect(int pages) {
            many = 0;
            firsts[0] = 0;
            for (int page = 0; page < pages; page++) {
                runOf[page] = many;
                if (nexts[firsts[many]] == page + 1) {
                    many++;
                    firsts[many] = page + 1;
                }
            }
        }
    }

    /** All that is found of the BOOK as it is. */
    private static final class Found {
        final Hands hands = new Hands();
        final Runs runs = new Runs();
        final int[] groupOf = new int[MOST_PAGES];
        private final int[][] joint = new int[MOST_PAGES][MOST_PAGES];
        int groups = 0;
        int doubts = 0;
        final int[] written = new int[MOST_SIGNS];
        int length = 0;

        void lookAt(Book book) {
            hands.gaps.survey(book);
            hands.findFor(book.limit);
            runs.find(hands.gaps, book.change);
            join(book.pages, book.limit);
            doubt(book.pages);
            write(book.pages);
        }

        private void join(int pages, int limit) {
            for (int page = 0; page < pages; page++) {
                groupOf[page] = page;
                System.arraycopy(hands.gaps.gap[page], 0, joint[page], 0, MOST_PAGES);
            }
            groups = pages;
            for (int joins = 1; joins < pages; joins++) {
                if (!joinsOnce(pages, limit)) {
                    return;
                }
            }
        }

        private boolean joinsOnce(int pages, int limit) {
            int one = NONE;
            int other = NONE;
            int least = limit + 1;
            for (int a = 0; a < pages; a++) {
                for (int b = a + 1; b < pages; b++) {
                    if (groupOf[a] == a && groupOf[b] == b && joint[a][b] < least) {
                        one = a;
                        other = b;
                        least = joint[a][b];
                    }
                }
            }
            if (one < 0 || other < 0) {
                return false;
            }
            unite(pages, one, other);
            return true;
        }

        private void unite(int pages, int one, int other) {
            groups--;
            for (int page = 0; page < pages; page++) {
                if (groupOf[page] == other) {
                    groupOf[page] = one;
                }
            }
            int own = joint[one][other];
            for (int third = 0; third < pages; third++) {
                int wide = Math.max(own, Math.max(joint[one][third], joint[other][third]));
                joint[one][third] = wide;
                joint[third][one] = wide;
            }
        }

        private void doubt(int pages) {
            doubts = 0;
            for (int page = 0; page < pages; page++) {
                for (int hand = 0; hand < hands.many; hand++) {
                    if (hand != hands.handOf[page] && hands.fits(page, hand)) {
                        doubts |= 1 << page;
                    }
                }
            }
        }

        private void write(int pages) {
            length = 0;
            for (int hand = 0; hand < hands.many; hand++) {
                if (hand > 0) {
                    add(';');
                }
                add('A' + hand);
                writePages(pages, hands.pagesOf[hand]);
            }
            add('/');
            for (int run = 1; run < runs.many; run++) {
                if (run > 1) {
                    add(',');
                }
                addNumber(runs.firsts[run]);
            }
        }

        private void writePages(int pages, int set) {
            boolean first = true;
            for (int page = 0; page < pages; page++) {
                if (((set >> page) & 1) == 1) {
                    if (!first) {
                        add(',');
                    }
                    first = false;
                    addNumber(page);
                    if (((doubts >> page) & 1) == 1) {
                        add('?');
                    }
                }
            }
        }

        /** PAGES go to 9 at most, so one figure tells each. */
        private void addNumber(int page) {
            add('0' + page);
        }

        private void add(int sign) {
            if (length < MOST_SIGNS) {
                written[length] = sign;
                length++;
            }
        }
    }

    /** What would be: worked out on a BOOK and HANDS of its own, so that nothing changes. */
    private static final class Foretold {
        private final Book trial = new Book();
        private final Hands hands = new Hands();
        private final int[] told = new int[MOST_PAGES];
        private int tellings = 0;
        private final int[] fewest = new int[1 << MOST_PAGES];
        private final int[] setsOfSize = new int[MOST_PAGES + 1];

        int handsWithout(Book book, int page) {
            trial.becomeLike(book);
            trial.cut(page);
            hands.gaps.survey(trial);
            hands.findFor(trial.limit);
            return hands.many;
        }

        /** A wider limit never wants more HANDS, so the limits can be halved. */
        int leastLimit(Book book, int most) {
            hands.gaps.survey(book);
            int low = 0;
            int high = MOST_FORETOLD_LIMIT;
            for (int step = 0; step < 10 && low < high; step++) {
                int half = (low + high) / 2;
                hands.gaps.markNear(half);
                if (hands.wantedAtLeast() <= most && hands.areEnough(most)) {
                    high = half;
                } else {
                    low = half + 1;
                }
            }
            return low;
        }

        void hear(int[] items, int from, int n) {
            tellings = 0;
            for (int i = 0; i < n && i < MOST_PAGES && from + i < items.length; i++) {
                told[i] = items[from + i];
                tellings++;
            }
        }

        long limitsOf(Book book) {
            hands.gaps.survey(book);
            long limits = 0;
            for (int limit = 0; limit <= MOST_LIMIT; limit++) {
                if (isSoBy(limit)) {
                    limits |= 1L << limit;
                }
            }
            return limits;
        }

        int kindsOf(Book book, int page) {
            trial.becomeLike(book);
            hands.gaps.survey(trial);
            int kinds = 0;
            for (int kind = PLAIN; kind <= FORGED; kind++) {
                trial.kinds[page] = kind;
                hands.gaps.surveyFrom(trial, page);
                if (isSoBy(trial.limit)) {
                    kinds |= 1 << kind;
                }
            }
            return kinds;
        }

        int numbersOf(Book book, int page, int which) {
            trial.becomeLike(book);
            hands.gaps.survey(trial);
            int numbers = 0;
            for (int v = 0; v <= MOST_MEASURE; v++) {
                trial.measures[which][page] = v;
                hands.gaps.surveyFrom(trial, page);
                if (isSoBy(trial.limit)) {
                    numbers |= 1 << v;
                }
            }
            return numbers;
        }

        private boolean isSoBy(int limit) {
            hands.findFor(limit);
            for (int page = 0; page < tellings; page++) {
                if (hands.handOf[page] != told[page]) {
                    return false;
                }
            }
            return true;
        }

        /** In how many of 10 to the number of PAGES cases that many HANDS will do. */
        long goodCases(Book book, int most, int p) {
            hands.gaps.survey(book);
            hands.gaps.markNear(book.limit);
            Arrays.fill(setsOfSize, 0);
            for (int set = 0; set < 1 << book.pages; set++) {
                fewest[set] = fewestFor(set);
                if (fewest[set] <= most) {
                    setsOfSize[Integer.bitCount(set)]++;
                }
            }
            long cases = 0;
            for (int left = 0; left <= book.pages; left++) {
                cases += setsOfSize[left] * power(MOST_CASES - p, left) * power(p, book.pages - left);
            }
            return cases;
        }

        /** The first PAGE of a set is of a HAND by itself, or with some that lie near it. */
        private int fewestFor(int set) {
            if (set == 0) {
                return 0;
            }
            int first = Integer.numberOfTrailingZeros(set);
            int others = set & (set - 1);
            int near = others & hands.gaps.near[first];
            int best = 1 + fewest[others];
            for (int with = near; with > 0; with = (with - 1) & near) {
                if (fewest[with] == 1) {
                    best = Math.min(best, 1 + fewest[others & ~with]);
                }
            }
            return best;
        }

        int draw(Book book, int n, int seed) {
            trial.becomeLike(book);
            hands.gaps.survey(trial);
            if (trial.pages < 1) {
                return 0;
            }
            long x = seed;
            int together = 0;
            for (int i = 0; i < n; i++) {
                x = x * 16807 % 2147483647;
                int page = (int) (x % trial.pages);
                int which = (int) (x / 16 % 3);
                trial.measures[which][page] = (int) (x / 64 % 31);
                hands.gaps.surveyFrom(trial, page);
                hands.findFor(trial.limit);
                together += hands.many;
            }
            return together;
        }

        int spreadOfAll() {
            return hands.gaps.widest((1 << trial.pages) - 1);
        }
    }

    /** SIZE and MARK of one PAGE. */
    private static final class Asks {
        final int[] numbers = new int[MOST_TRACED];
        int traced = 0;
        private int number = 0;
        private int handOfIt = 0;
        private int kindOfIt = 0;
        private int slantOfIt = 0;

        void begin(Book book, int page, int hand) {
            traced = 0;
            number = page;
            handOfIt = hand;
            kindOfIt = book.kinds[page];
            slantOfIt = book.measures[SLANT][page];
        }

        int size() {
            switch (kindOfIt) {
                case FADED:
                    leave(12);
                    return -sizeOfPlain();
                case COPY:
                case FORGED:
                    return sizeOfAnyCopy();
                default:
                    return sizeOfPlain();
            }
        }

        int mark() {
            return kindOfIt == COPY || kindOfIt == FORGED ? markOfCopy() : markOfAnyPlain();
        }

        /** Apart from size(), as markOfAnyPlain() is from mark(), so that those two never call each other in a ring. */
        private int sizeOfAnyCopy() {
            if (kindOfIt != FORGED) {
                return sizeOfCopy();
            }
            leave(14);
            return 2 * sizeOfCopy();
        }

        private int markOfAnyPlain() {
            switch (kindOfIt) {
                case FADED:
                    leave(24);
                    return 2 * markOfPlain();
                case RULED:
                    leave(22);
                    return markOfPlain() - 1000;
                default:
                    return markOfPlain();
            }
        }

        private int sizeOfPlain() {
            leave(11);
            int lent = sizeLent();
            return lent + markOfAnyPlain();
        }

        private int sizeOfCopy() {
            leave(13);
            return sizeLent() - 100;
        }

        private int sizeLent() {
            leave(10);
            return slantOfIt;
        }

        private int markOfPlain() {
            leave(21);
            return markLent() + handOfIt;
        }

        private int markOfCopy() {
            leave(23);
            int lent = markLent();
            return lent - sizeOfAnyCopy();
        }

        private int markLent() {
            leave(20);
            return number;
        }

        private void leave(int body) {
            if (traced < MOST_TRACED) {
                numbers[traced] = body;
                traced++;
            }
        }
    }
}
