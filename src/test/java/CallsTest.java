import com.sun.source.tree.ClassTree;
import com.sun.source.tree.CompilationUnitTree;
import com.sun.source.tree.MethodInvocationTree;
import com.sun.source.tree.MethodTree;
import com.sun.source.tree.NewArrayTree;
import com.sun.source.tree.NewClassTree;
import com.sun.source.util.JavacTask;
import com.sun.source.util.TreePathScanner;
import com.sun.source.util.Trees;
import java.io.IOException;
import java.util.List;
import java.util.Map;
import java.util.Set;
import java.util.TreeMap;
import java.util.TreeSet;
import javax.lang.model.element.Element;
import javax.tools.JavaCompiler;
import javax.tools.StandardJavaFileManager;
import javax.tools.ToolProvider;

/**
 * Who calls whom in the class, as the compiler reads it: how deep calls go, what calls itself, what of the library is
 * called and where objects are made (../shared/LANGUAGE.md, rules 4, 8, 11, 12).
 */
public final class CallsTest {
    private static final int MOST_DEEP = 8;
    /** The only ring of calls: PAGE by PAGE, ten levels at most. */
    private static final String RECURSION = "HandsInBook.Hands.settles";
    private static final Set<String> LIBRARY = Set.of("java.lang.String.length", "java.lang.String.charAt",
            "java.lang.Math.max", "java.lang.Math.min", "java.lang.Math.abs", "java.lang.Integer.bitCount",
            "java.lang.Integer.numberOfTrailingZeros", "java.lang.Long.bitCount",
            "java.lang.Long.numberOfTrailingZeros", "java.lang.System.arraycopy", "java.util.Arrays.fill",
            "java.lang.Object.<init>");
    private static final Check check = new Check("CallsTest");
    private static final Map<String, Set<String>> calls = new TreeMap<>();
    private static final Set<String> makers = new TreeSet<>();

    public static void main(String[] args) throws IOException {
        String path = args.length > 0 ? args[0] : "src/main/java/HandsInBook.java";
        read(path);
        check.holds("the class has methods", calls.size() > 36);
        library();
        for (String method : calls.keySet()) {
            depth(method);
            check.due(method + " calls itself", reaches(method).contains(method) ? 1 : 0,
                    method.equals(RECURSION) ? 1 : 0);
        }
        for (String maker : makers) {
            check.holds(maker + " makes objects, so it is a constructor", maker.endsWith(".<init>"));
        }
        check.finish();
    }

    private static void read(String path) throws IOException {
        JavaCompiler compiler = ToolProvider.getSystemJavaCompiler();
        try (StandardJavaFileManager files = compiler.getStandardFileManager(null, null, null)) {
            JavacTask task = (JavacTask) compiler.getTask(null, files, null, List.of("-proc:none"), null,
                    files.getJavaFileObjects(path));
            for (CompilationUnitTree unit : task.parse()) {
                task.analyze();
                new Callers(Trees.instance(task)).scan(unit, null);
            }
        }
    }

    /** What stands outside of methods, first values of fields, is counted to the constructor. */
    private static final class Callers extends TreePathScanner<Void, Void> {
        private final Trees trees;
        private String type = "";
        private String method = "";

        Callers(Trees trees) {
            this.trees = trees;
        }

        private static String name(Element one) {
            return one.getEnclosingElement() + "." + one.getSimpleName();
        }

        @Override
        public Void visitClass(ClassTree tree, Void none) {
            String outerType = type;
            String outerMethod = method;
            type = trees.getElement(getCurrentPath()).toString();
            method = type + ".<init>";
            calls.computeIfAbsent(method, m -> new TreeSet<>());
            super.visitClass(tree, none);
            type = outerType;
            method = outerMethod;
            return null;
        }

        @Override
        public Void visitMethod(MethodTree tree, Void none) {
            String outer = method;
            method = name(trees.getElement(getCurrentPath()));
            calls.computeIfAbsent(method, m -> new TreeSet<>());
            super.visitMethod(tree, none);
            method = outer;
            return null;
        }

        @Override
        public Void visitMethodInvocation(MethodInvocationTree tree, Void none) {
            calls.get(method).add(name(trees.getElement(getCurrentPath())));
            return super.visitMethodInvocation(tree, none);
        }

        @Override
        public Void visitNewClass(NewClassTree tree, Void none) {
            calls.get(method).add(name(trees.getElement(getCurrentPath())));
            makers.add(method);
            return super.visitNewClass(tree, none);
        }

        @Override
        public Void visitNewArray(NewArrayTree tree, Void none) {
            makers.add(method);
            return super.visitNewArray(tree, none);
        }
    }

    private static void library() {
        for (Map.Entry<String, Set<String>> one : calls.entrySet()) {
            for (String called : one.getValue()) {
                check.holds(one.getKey() + " may call " + called,
                        calls.containsKey(called) || LIBRARY.contains(called));
            }
        }
    }

    private static Set<String> reaches(String method) {
        Set<String> all = new TreeSet<>();
        gather(method, all);
        return all;
    }

    private static void gather(String method, Set<String> all) {
        for (String called : calls.getOrDefault(method, Set.of())) {
            if (all.add(called)) {
                gather(called, all);
            }
        }
    }

    private static void depth(String method) {
        String chain = longest(method, Set.of());
        check.holds("no deeper than eight: " + chain, chain.split(" > ").length <= MOST_DEEP);
    }

    /** A method that is on the way already is not gone into again: recursion is no depth here. */
    private static String longest(String method, Set<String> way) {
        Set<String> farther = new TreeSet<>(way);
        farther.add(method);
        String best = "";
        for (String called : calls.getOrDefault(method, Set.of())) {
            if (!farther.contains(called)) {
                String chain = longest(called, farther);
                if (best.isEmpty() || chain.split(" > ").length > best.split(" > ").length) {
                    best = chain;
                }
            }
        }
        return best.isEmpty() ? method : method + " > " + best;
    }
}
