import java.io.IOException;
import java.nio.file.Files;
import java.nio.file.Path;
import java.util.ArrayList;
import java.util.Arrays;
import java.util.BitSet;
import java.util.LinkedHashMap;
import java.util.List;
import java.util.Map;
import java.util.TreeSet;
import java.util.stream.Stream;

/**
 * All promises: the cases in src/test/bounds, each for words of the document that stand at its head, each on an object
 * of its own. It also looks that those words stand in the document, that no words there are left without a case, and
 * that each call changes nothing but what it may.
 */
public final class BoundsTest {
    private static final Path CASES = Path.of("src/test/bounds");
    private static final Path DOCUMENT = Path.of("../shared/DOC.md");
    private static final String USE = "What it is";
    private static final Check check = new Check("BoundsTest");
    private static final Map<String, Integer> NAMED = Map.of("NONE", -1000000, "BAD", -1000001, "STATE", -1000002,
            "FULL", -1000003, "NULL", -1000011, "PLACE", -1000012, "KIND", -1000013, "SIZE", -1000014, "STORE",
            -1000015);
    /** What a call may change that is not refused; a call that is not here changes nothing. */
    private static final Map<String, String> CHANGES = Map.ofEntries(Map.entry("row", "rows status"),
            Map.entry("set", "rows status"), Map.entry("copy", "rows status"), Map.entry("drop", "rows status"),
            Map.entry("feed", "tape"), Map.entry("book", "tape book acts"), Map.entry("undo", "book acts"),
            Map.entry("put", "book acts"), Map.entry("take", "book acts"), Map.entry("move", "book acts"),
            Map.entry("measure", "book acts"), Map.entry("become", "book acts"), Map.entry("law", "book acts"),
            Map.entry("say", "tape"), Map.entry("who", "status"), Map.entry("image", "images"),
            Map.entry("restore", "book acts"), Map.entry("as", "status"), Map.entry("ask", "trace"));

    /** A case: the heading of the document, its words there, what is tried, lines of calls. */
    private record Case(String heading, String words, String tried, List<String> lines) {
        String name() {
            return heading + ", '" + words + "'" + (tried.isEmpty() ? "" : ", " + tried);
        }
    }

    private final Case one;
    private Trail trail = new Trail();
    private String line = "";

    private BoundsTest(Case one) {
        this.one = one;
    }

    public static void main(String[] args) throws IOException {
        List<Case> cases = new ArrayList<>();
        try (Stream<Path> files = Files.list(CASES)) {
            for (Path file : files.sorted().toList()) {
                readCases(Files.readAllLines(file), cases);
            }
        }
        for (Case one : cases) {
            new BoundsTest(one).go();
        }
        holdAgainstDocument(cases);
        System.out.println("BoundsTest: " + cases.size() + " cases");
        check.finish();
    }

    private static void readCases(List<String> lines, List<Case> cases) {
        String heading = "";
        for (String line : lines) {
            if (line.startsWith("== ")) {
                heading = line.substring(3).strip();
            } else if (line.startsWith("-- ")) {
                String[] parts = line.substring(3).split(" \\| ", 2);
                cases.add(new Case(heading, parts[0].strip(), parts.length > 1 ? parts[1] : "", new ArrayList<>()));
            } else if (!line.isBlank() && !line.startsWith("#")) {
                cases.get(cases.size() - 1).lines().add(line.replaceAll(" +# .*", "").strip());
            }
        }
    }

    // ---- cases

    private void go() {
        check.holds(one.name() + " has a call whose answer is due", one.lines().stream().anyMatch(l -> l.contains("=")));
        for (String next : one.lines()) {
            line = next;
            int sign = next.lastIndexOf(" = ");
            String left = sign < 0 ? next : next.substring(0, sign).strip();
            String want = sign < 0 ? null : next.substring(sign + 3).strip();
            if (next.endsWith(" =")) {
                left = next.substring(0, next.length() - 2).strip();
                want = "";
            }
            String[] words = left.split(" +");
            if (words.length > 2 && words[1].equals("times")) {
                playTimes(Integer.parseInt(words[0]), Arrays.copyOfRange(words, 2, words.length), want);
            } else {
                play(words, left, want);
            }
        }
    }

    /** Only the last answer is held against what is due, and what changes is not looked at. */
    private void playTimes(int times, String[] words, String want) {
        long got = 0;
        for (int i = 0; i < times; i++) {
            got = trail.call(words[0], numbers(words));
        }
        if (want != null) {
            due(got, number(want));
        }
    }

    private void due(long got, long want) {
        check.due(one.name() + ": " + line, got, want);
    }

    private void holds(String got, String want) {
        check.holds(one.name() + ": " + line + " answered " + got, got.equals(want));
    }

    private void play(String[] words, String left, String want) {
        String rest = left.length() > words[0].length() ? left.substring(words[0].length() + 1) : "";
        switch (words[0]) {
            case "new":
                trail = new Trail();
                break;
            case "text":
                feed(rest);
                break;
            case "told":
                feed(rest);
                due(trail.call("book"), rest.chars().filter(c -> c == ';').count() - 1);
                break;
            case "fails":
                fails(rest, want);
                break;
            case "word":
                feed(rest);
                callAndLook("say", new int[0], want);
                break;
            case "tell":
                tell(words);
                break;
            case "written":
                holds(Check.written(trail.again()), want);
                break;
            case "traced":
                holds(Check.traced(trail.again()), want);
                break;
            case "state":
                holds(Check.state(trail.again()), want);
                break;
            case "items":
                holds(trail.row(Integer.parseInt(words[1])), want);
                break;
            default:
                callAndLook(words[0], numbers(words), want);
        }
    }

    private void feed(String text) {
        long bytes = trail.call("count", 6);
        for (int i = 0; i < text.length(); i++) {
            due(trail.call("feed", text.charAt(i)), bytes + i + 1);
        }
    }

    /** A text whose FAULT is told as its place and its number. */
    private void fails(String text, String want) {
        String[] due = want.split(" ");
        feed(text);
        callAndLook("book", new int[0], "" + (-1000100 - Integer.parseInt(due[0])));
        due(trail.call("fault"), Integer.parseInt(due[1]));
        due(trail.call("count", 6), 0);
    }

    private void tell(String[] words) {
        int row = Integer.parseInt(words[1]);
        due(trail.call("row", row, 2, words.length - 2), words.length - 2);
        for (int i = 2; i < words.length; i++) {
            trail.call("set", row, i - 2, Integer.parseInt(words[i]));
        }
    }

    private static long number(String want) {
        return NAMED.containsKey(want) ? NAMED.get(want) : Long.parseLong(want);
    }

    private static int[] numbers(String[] words) {
        int[] values = new int[words.length - 1];
        for (int i = 0; i < values.length; i++) {
            String word = words[i + 1];
            values[i] = word.equals("MIN") ? Integer.MIN_VALUE : word.equals("MAX") ? Integer.MAX_VALUE
                    : Integer.parseInt(word);
        }
        return values;
    }

    private void callAndLook(String name, int[] values, String want) {
        if (!Trail.knows(name, values.length)) {
            check.holds(one.name() + ": no such call: " + line, false);
            return;
        }
        Map<String, String> before = trail.parts();
        long got = trail.call(name, values);
        Map<String, String> behind = trail.parts();
        if (want != null) {
            due(got, number(want));
        }
        check.holds(one.name() + ": what is found behind " + line + " is found anew", trail.isFoundAnew());
        String may = mayChange(name, got);
        for (String part : before.keySet()) {
            if (!(" " + may + " ").contains(" " + part + " ")) {
                check.holds(one.name() + ": " + line + " changed " + part + " from " + before.get(part) + " to "
                        + behind.get(part), before.get(part).equals(behind.get(part)));
            }
        }
    }

    private static String mayChange(String name, long got) {
        if (name.equals("say")) {
            return "tape";
        }
        if (name.equals("book") && got <= -1000100) {
            return "tape fault";
        }
        if (got == NAMED.get("BAD") || got == NAMED.get("STATE") || got == NAMED.get("FULL")) {
            return "";
        }
        if (got <= NAMED.get("NULL") && got >= NAMED.get("STORE")) {
            return "status";
        }
        return CHANGES.getOrDefault(name, "");
    }

    // ---- the document

    private static void holdAgainstDocument(List<Case> cases) throws IOException {
        Map<String, String> document = headings(Files.readString(DOCUMENT));
        check.due("promises in the document", document.keySet().stream().filter(h -> h.startsWith("Promise")).count(),
                37);
        Map<String, BitSet> covered = new LinkedHashMap<>();
        for (Case one : cases) {
            String text = document.getOrDefault(one.heading(), "");
            int at = text.indexOf(one.words());
            check.holds(one.name() + ": the words stand in the document, once", at >= 0 && !one.words().isEmpty()
                    && text.indexOf(one.words(), at + 1) < 0);
            if (at >= 0) {
                covered.computeIfAbsent(one.heading(), h -> new BitSet()).set(at, at + one.words().length());
            }
        }
        for (String heading : new TreeSet<>(document.keySet())) {
            if (heading.equals("Terms") || heading.startsWith("Promise")) {
                String open = leftOver(document.get(heading), covered.getOrDefault(heading, new BitSet()));
                check.holds(heading + ": words without a case: " + open, open.isEmpty());
            }
        }
        check.holds("a case for how long an object is used", covered.containsKey(USE));
    }

    /** Texts by headings, 'Promise 2' for 'Promise 2: row', without what is no promise: fences, signatures, lists. */
    private static Map<String, String> headings(String text) {
        Map<String, String> all = new LinkedHashMap<>();
        for (String part : text.split("(?m)^## ")) {
            String heading = part.lines().findFirst().orElse("").replaceAll("(Promise \\d+):.*", "$1").strip();
            StringBuilder words = new StringBuilder();
            part.lines().skip(1).filter(l -> !l.startsWith("```") && !l.startsWith("Ahead of the calls"))
                    .forEach(l -> words.append(l.replaceAll("^======== \\d+ |^`[^`]*`: ", "")).append(' '));
            all.put(heading, words.toString().replaceAll("\\s+", " ").strip());
        }
        return all;
    }

    private static String leftOver(String text, BitSet covered) {
        StringBuilder open = new StringBuilder();
        for (int i = 0; i < text.length(); i++) {
            if (!covered.get(i) && Character.isLetterOrDigit(text.charAt(i))) {
                int end = covered.nextSetBit(i);
                open.append("[").append(text, i, end < 0 ? text.length() : end).append("]");
                i = end < 0 ? text.length() : end;
            }
        }
        return open.toString();
    }
}
