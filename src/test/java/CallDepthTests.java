import com.sun.source.tree.ClassTree;
import com.sun.source.tree.CompilationUnitTree;
import com.sun.source.tree.MethodInvocationTree;
import com.sun.source.tree.MethodTree;
import com.sun.source.tree.NewClassTree;
import com.sun.source.tree.VariableTree;
import com.sun.source.util.JavacTask;
import com.sun.source.util.TreePathScanner;
import com.sun.source.util.Trees;
import java.io.IOException;
import java.nio.file.Path;
import java.util.LinkedHashMap;
import java.util.LinkedHashSet;
import java.util.List;
import java.util.Map;
import java.util.Set;
import java.util.TreeSet;
import javax.lang.model.element.Element;
import javax.lang.model.element.ExecutableElement;
import javax.lang.model.element.Modifier;
import javax.lang.model.element.TypeElement;
import javax.tools.JavaCompiler;
import javax.tools.StandardJavaFileManager;
import javax.tools.ToolProvider;

/**
 * Rules 4, 8 and 11 of ../shared/LANGUAGE.md, as the compiler sees the file: what is called of
 * the library, which methods call themselves, and how deep the others call one another.
 */
public final class CallDepthTests {
    private static final Due DUE = new Due("CallDepthTests");
    private static final Path FILE = Path.of("src/main/java/StepOrders.java");
    private static final int DEEPEST = 8;
    private static final int MOST_FIELDS = 20;

    /** Of each method of the file those that it calls; its own first. */
    private static final Map<Element, Set<Element>> CALLS = new LinkedHashMap<>();
    private static final Set<String> OF_LIBRARY = new TreeSet<>();
    private static final Map<Element, Integer> DEPTH = new LinkedHashMap<>();

    private static final class Reader extends TreePathScanner<Void, Element> {
        private final Trees trees;

        Reader(Trees trees) {
            this.trees = trees;
        }

        @Override
        public Void visitClass(ClassTree tree, Element in) {
            int fields = 0;
            for (var member : tree.getMembers()) {
                boolean field = member instanceof VariableTree v && !v.getModifiers().getFlags().contains(Modifier.STATIC);
                fields += field ? 1 : 0;
            }
            DUE.is(tree.getSimpleName() + " has some twenty fields", fields <= MOST_FIELDS ? 1 : 0, 1);
            return super.visitClass(tree, trees.getElement(getCurrentPath()));
        }

        @Override
        public Void visitMethod(MethodTree tree, Element in) {
            Element method = trees.getElement(getCurrentPath());
            CALLS.computeIfAbsent(method, m -> new LinkedHashSet<>());
            return super.visitMethod(tree, method);
        }

        @Override
        public Void visitMethodInvocation(MethodInvocationTree tree, Element in) {
            called(in, trees.getElement(getCurrentPath()));
            return super.visitMethodInvocation(tree, in);
        }

        @Override
        public Void visitNewClass(NewClassTree tree, Element in) {
            called(in, trees.getElement(getCurrentPath()));
            return super.visitNewClass(tree, in);
        }

        /** What stands in a field's beginning is called by each constructor of its class. */
        private void called(Element from, Element to) {
            if (from instanceof TypeElement type) {
                for (Element one : type.getEnclosedElements()) {
                    if (one.getSimpleName().contentEquals("<init>")) {
                        CALLS.computeIfAbsent(one, m -> new LinkedHashSet<>()).add(to);
                    }
                }
            } else {
                CALLS.computeIfAbsent(from, m -> new LinkedHashSet<>()).add(to);
            }
        }
    }

    private static String name(Element method) {
        return method.getEnclosingElement().getSimpleName() + "." + method;
    }

    private static void read() throws IOException {
        JavaCompiler compiler = ToolProvider.getSystemJavaCompiler();
        try (StandardJavaFileManager files = compiler.getStandardFileManager(null, null, null)) {
            JavacTask task = (JavacTask) compiler.getTask(null, files, null, List.of("-proc:none"), null, files.getJavaFileObjects(FILE));
            Iterable<? extends CompilationUnitTree> units = task.parse();
            task.analyze();
            for (CompilationUnitTree unit : units) {
                new Reader(Trees.instance(task)).scan(unit, null);
            }
        }
    }

    /** How many methods stand open at most, from this one on; itself counts once. */
    private static int depth(Element method, Set<Element> open) {
        if (!CALLS.containsKey(method)) {
            OF_LIBRARY.add(name(method));
            return 0;
        }
        if (DEPTH.containsKey(method)) {
            return DEPTH.get(method);
        }
        open.add(method);
        int deepest = 0;
        for (Element next : CALLS.get(method)) {
            if (open.contains(next)) {
                DUE.is(name(next) + " calls none that calls it, but itself", next.equals(method) ? 1 : 0, 1);
                Set<Modifier> words = next.getModifiers();
                DUE.is(name(next) + " calls itself, so is private static",
                    words.contains(Modifier.PRIVATE) && words.contains(Modifier.STATIC) ? 1 : 0, 1);
            } else {
                deepest = Math.max(deepest, depth(next, open));
            }
        }
        open.remove(method);
        DEPTH.put(method, deepest + 1);
        return deepest + 1;
    }

    public static void main(String[] args) throws IOException {
        read();
        DUE.is("methods were found", CALLS.size() > 60 ? 1 : 0, 1);
        for (Element method : Set.copyOf(CALLS.keySet())) {
            if (method instanceof ExecutableElement) {
                int depth = depth(method, new LinkedHashSet<>());
                DUE.is(name(method) + " goes " + depth + " deep", depth <= DEEPEST ? 1 : 0, 1);
                DUE.is(name(method) + " is used", isUsed(method) ? 1 : 0, 1);
            }
        }
        DUE.same("what is called of the library", OF_LIBRARY.toString(),
            "[Object.Object(), System.arraycopy(java.lang.Object,int,java.lang.Object,int,int)]");
        DUE.end();
    }

    private static boolean isUsed(Element method) {
        if (method.getModifiers().contains(Modifier.PUBLIC) || method.getSimpleName().contentEquals("<init>")) {
            return true;
        }
        for (Map.Entry<Element, Set<Element>> each : CALLS.entrySet()) {
            if (!each.getKey().equals(method) && each.getValue().contains(method)) {
                return true;
            }
        }
        return false;
    }
}
