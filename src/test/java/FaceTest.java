import java.io.IOException;
import java.lang.reflect.Constructor;
import java.lang.reflect.Field;
import java.lang.reflect.Method;
import java.lang.reflect.Modifier;
import java.nio.file.Files;
import java.nio.file.Path;
import java.util.TreeSet;
import java.util.regex.Matcher;
import java.util.regex.Pattern;

/** The public face, and those rules of ../shared/LANGUAGE.md that can be told from the class and its text. */
public final class FaceTest {
    private static final String[] FACE = {
        "int row(int,int,int)", "int set(int,int,int)", "int copy(int,int,int,int,int)", "int drop(int)",
        "int feed(int)", "int book()", "int fault()", "int undo()", "int put(int,int,int,int,int)", "int take(int)",
        "int move(int,int)", "int measure(int,int,int)", "int become(int,int)", "int law(int,int)",
        "int page(int,int)", "int apart(int,int)", "int spread(int)", "int whole(int)", "int hand(int,int)",
        "int run(int,int)", "int sign(int)", "int say()", "int without(int)", "int least(int)", "int pairs(int)",
        "int who(int,int,int,int,int)", "long lost(int,int,int)", "int drawn(int,int,int)", "int image(int)",
        "int restore(int)", "int kind(int)", "int as(int,int)", "int ask(int,int)", "int trace(int)",
        "int count(int)", "int status()"};
    private static final String[] RULED_OUT = {"throw", "throws", "try", "catch", "finally", "synchronized", "assert",
        "protected", "var", "Exact", "hashCode", "toString", "System.currentTimeMillis", "System.nanoTime", "Random",
        "Thread", "->", "::", "@"};
    /** What rule 4 leaves of the library, as far as it is called by a class's name. */
    private static final String LIBRARY = " System.arraycopy Arrays.fill Arrays.copyOf Arrays.copyOfRange Math.max"
            + " Math.min Math.abs Math.floorDiv Math.floorMod Integer.bitCount Integer.numberOfTrailingZeros"
            + " Integer.compare Long.bitCount Long.numberOfTrailingZeros Long.compare List.of ";
    private static final int MOST_CLASSES = 12, MOST_FIELDS = 20, MOST_PARAMETERS = 7, MOST_LINES = 60;
    private static final Check check = new Check("FaceTest");

    public static void main(String[] args) throws IOException {
        constants();
        methods();
        fields();
        classesInside();
        String source = Files.readString(Path.of(args.length > 0 ? args[0] : "src/main/java/HandsInBook.java"));
        text(source);
        lengths(source);
        check.finish();
    }

    private static void constants() {
        check.due("NONE", HandsInBook.NONE, -1000000);
        check.due("BAD", HandsInBook.BAD, -1000001);
        check.due("STATE", HandsInBook.STATE, -1000002);
        check.due("FULL", HandsInBook.FULL, -1000003);
    }

    private static void methods() {
        check.due("public final", HandsInBook.class.getModifiers(), Modifier.PUBLIC | Modifier.FINAL);
        Constructor<?>[] made = HandsInBook.class.getDeclaredConstructors();
        check.due("constructors", made.length, 1);
        check.holds("public constructor", Modifier.isPublic(made[0].getModifiers()));
        TreeSet<String> want = new TreeSet<>(java.util.List.of(FACE));
        TreeSet<String> names = new TreeSet<>();
        TreeSet<String> got = new TreeSet<>();
        for (String one : FACE) {
            names.add(one.substring(one.indexOf(' ') + 1, one.indexOf('(')));
        }
        for (Method method : HandsInBook.class.getDeclaredMethods()) {
            if (Modifier.isPublic(method.getModifiers())) {
                StringBuilder text = new StringBuilder(method.getReturnType() + " " + method.getName() + "(");
                for (Class<?> type : method.getParameterTypes()) {
                    text.append(text.charAt(text.length() - 1) == '(' ? "" : ",").append(type);
                }
                got.add(text + ")");
            } else {
                check.holds(method + " is private", Modifier.isPrivate(method.getModifiers()));
                check.holds(method + " has a name of its own", !names.contains(method.getName()));
            }
        }
        check.holds("the face is " + got, got.equals(want));
    }

    private static void fields() {
        for (Field field : HandsInBook.class.getDeclaredFields()) {
            boolean told = "NONE BAD STATE FULL".contains(field.getName());
            check.holds(field + " is as visible as told",
                    told ? Modifier.isPublic(field.getModifiers()) : Modifier.isPrivate(field.getModifiers()));
        }
    }

    private static void classesInside() {
        check.holds("some twelve classes", HandsInBook.class.getDeclaredClasses().length < MOST_CLASSES);
        aClass(HandsInBook.class);
        for (Class<?> inside : HandsInBook.class.getDeclaredClasses()) {
            check.holds(inside + " is static", Modifier.isStatic(inside.getModifiers()));
            check.due("classes inside " + inside, inside.getDeclaredClasses().length, 0);
            aClass(inside);
        }
    }

    private static void aClass(Class<?> one) {
        int fields = 0;
        for (Field field : one.getDeclaredFields()) {
            if (Modifier.isStatic(field.getModifiers())) {
                check.holds(field + " is final", Modifier.isFinal(field.getModifiers()));
            } else {
                fields++;
            }
        }
        check.holds(one + " has some twenty fields at most", fields <= MOST_FIELDS);
        for (Method method : one.getDeclaredMethods()) {
            check.holds(method + " has seven parameters at most", method.getParameterCount() <= MOST_PARAMETERS);
        }
    }

    private static void text(String source) {
        String code = source.replaceAll("(?s)/\\*.*?\\*/", " ").replaceAll("//[^\n]*", " ");
        for (String word : RULED_OUT) {
            boolean letters = Character.isLetter(word.charAt(0));
            String pattern = letters ? "(?s).*\\b" + Pattern.quote(word) + "\\b.*"
                    : "(?s).*" + Pattern.quote(word) + ".*";
            check.holds("no " + word, !code.matches(pattern));
        }
        Matcher calls = Pattern.compile("\\b[A-Z]\\w*\\.\\w+").matcher(code);
        while (calls.find()) {
            check.holds(calls.group() + " is in the library that is left",
                    LIBRARY.contains(" " + calls.group() + " "));
        }
        Matcher imports = Pattern.compile("(?m)^import (.*);$").matcher(source);
        while (imports.find()) {
            check.holds("import " + imports.group(1), imports.group(1).matches("java\\.util\\.(Arrays|ArrayList|List)"));
        }
    }

    /** Methods of the class stand four blanks in, those of classes inside eight. */
    private static void lengths(String source) {
        String[] lines = source.split("\n");
        for (String blanks : new String[] {"    ", "        "}) {
            int first = 0;
            for (int i = 0; i < lines.length; i++) {
                if (lines[i].matches(blanks + "\\w.*\\) \\{")) {
                    first = i;
                } else if (lines[i].equals(blanks + "}") && first > 0) {
                    check.holds("the method of line " + (first + 1) + " is short", i - first < MOST_LINES);
                    first = 0;
                }
            }
        }
    }
}
