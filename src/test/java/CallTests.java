import com.sun.source.tree.CompilationUnitTree;
import com.sun.source.tree.MethodInvocationTree;
import com.sun.source.tree.MethodTree;
import com.sun.source.util.JavacTask;
import com.sun.source.util.TreePathScanner;
import com.sun.source.util.Trees;
import java.io.IOException;
import java.util.Map;
import java.util.Set;
import java.util.TreeMap;
import java.util.TreeSet;
import javax.lang.model.element.Element;
import javax.lang.model.element.Modifier;
import javax.tools.JavaCompiler;
import javax.tools.StandardJavaFileManager;
import javax.tools.ToolProvider;

/** Who calls whom in the program: rules 4, 8 and 11 of ../shared/LANGUAGE.md. */
final class CallTests {
    private static final Check CHECK = new Check("CallTests");
    private static final int DEEPEST = 8;
    private static final Set<String> LIBRARY = Set.of("java.lang.Math.abs(int)", "java.lang.Math.max(int,int)",
            "java.lang.Math.min(int,int)", "java.lang.Math.floorDiv(int,int)", "java.lang.Integer.bitCount(int)",
            "java.lang.String.length()", "java.lang.String.charAt(int)", "java.util.Arrays.fill(int[],int)",
            "java.lang.System.arraycopy(java.lang.Object,int,java.lang.Object,int,int)", "java.lang.Object.Object()");

    /** For each method of the program the ones that it calls. */
    private final Map<String, Set<String>> called = new TreeMap<>();
    private final Set<String> face = new TreeSet<>();

    private CallTests() {
    }

    public static void main(String[] args) throws IOException {
        CallTests tests = new CallTests();
        tests.read();
        tests.libraryIsAllowed();
        tests.nothingCallsItself();
        tests.callsAreNotDeep();
        CHECK.close();
    }

    private void read() throws IOException {
        JavaCompiler javac = ToolProvider.getSystemJavaCompiler();
        try (StandardJavaFileManager files = javac.getStandardFileManager(null, null, null)) {
            JavacTask task = (JavacTask) javac.getTask(null, files, null, null, null,
                    files.getJavaFileObjects("src/main/java/RasterPainter.java"));
            Iterable<? extends CompilationUnitTree> units = task.parse();
            task.analyze();
            Trees trees = Trees.instance(task);
            for (CompilationUnitTree unit : units) {
                new Reader(trees).scan(unit, null);
            }
        }
    }

    private final class Reader extends TreePathScanner<Void, Void> {
        private final Trees trees;
        private Set<String> calls = new TreeSet<>();

        Reader(Trees trees) {
            this.trees = trees;
        }

        @Override
        public Void visitMethod(MethodTree method, Void none) {
            Element element = trees.getElement(getCurrentPath());
            calls = new TreeSet<>();
            called.put(name(element), calls);
            if (element.getModifiers().contains(Modifier.PUBLIC)) {
                face.add(name(element));
            }
            return super.visitMethod(method, none);
        }

        @Override
        public Void visitMethodInvocation(MethodInvocationTree call, Void none) {
            calls.add(name(trees.getElement(getCurrentPath())));
            return super.visitMethodInvocation(call, none);
        }

        private String name(Element method) {
            String within = method.getEnclosingElement().toString();
            return within + "." + method.toString();
        }
    }

    private void libraryIsAllowed() {
        CHECK.due("30 calls and the constructor", face.size(), 31);
        for (Set<String> calls : called.values()) {
            for (String call : calls) {
                CHECK.holds(call + " is the program's own or allowed",
                        called.containsKey(call) || LIBRARY.contains(call));
            }
        }
    }

    /** All that a method reaches by its calls. */
    private Set<String> reached(String method) {
        Set<String> all = new TreeSet<>();
        Set<String> latest = called.getOrDefault(method, Set.of());
        while (!latest.isEmpty()) {
            all.addAll(latest);
            Set<String> next = new TreeSet<>();
            for (String m : latest) {
                next.addAll(called.getOrDefault(m, Set.of()));
            }
            next.removeAll(all);
            latest = next;
        }
        return all;
    }

    private void nothingCallsItself() {
        for (String method : called.keySet()) {
            CHECK.holds(method + " does not call itself", !reached(method).contains(method));
        }
    }

    /** How many calls stand open at once from this one on, the library's with them. */
    private int depth(String method, int above) {
        int deepest = 0;
        if (above <= DEEPEST) {
            for (String call : called.getOrDefault(method, Set.of())) {
                deepest = Math.max(deepest, depth(call, above + 1));
            }
        }
        return deepest + 1;
    }

    private void callsAreNotDeep() {
        for (String method : face) {
            int depth = depth(method, 0);
            CHECK.holds(method + " goes " + depth + " deep, " + DEEPEST + " at most", depth <= DEEPEST);
        }
    }
}
