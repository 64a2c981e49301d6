import com.sun.source.tree.CompilationUnitTree;
import com.sun.source.tree.MethodInvocationTree;
import com.sun.source.tree.MethodTree;
import com.sun.source.tree.NewClassTree;
import com.sun.source.util.JavacTask;
import com.sun.source.util.TreePathScanner;
import com.sun.source.util.Trees;
import java.io.IOException;
import java.nio.file.Path;
import java.util.LinkedHashMap;
import java.util.LinkedHashSet;
import java.util.List;
import java.util.Map;
import java.util.Set;
import javax.lang.model.element.Element;
import javax.lang.model.element.ElementKind;
import javax.lang.model.element.Modifier;
import javax.lang.model.element.TypeElement;
import javax.tools.JavaCompiler;
import javax.tools.StandardJavaFileManager;
import javax.tools.ToolProvider;

/** What calls what in the program: how deep calls go (LANGUAGE.md, rule 11), what of the library they ask (rule 4). */
public final class CallsTest {
    private static final Path SOURCE = Path.of("src/main/java/CoinSampler.java");
    // The call of the face itself isn't counted, so one more stands open.
    private static final int DEEPEST = 8;

    private static final Set<String> NUMBERS = Set.of("java.lang.Integer", "java.lang.Long", "java.lang.Math");
    private static final Map<String, Set<String>> LIBRARY = Map.ofEntries(
        Map.entry("java.lang.Object", Set.of("<init>")),
        Map.entry("java.lang.String", Set.of("length", "charAt", "isEmpty", "equals", "indexOf", "substring",
            "toCharArray", "<init>")),
        Map.entry("java.lang.StringBuilder", Set.of("<init>", "append", "charAt", "setCharAt", "setLength",
            "deleteCharAt", "reverse", "length", "toString")),
        Map.entry("java.util.ArrayList", Set.of("<init>", "add", "get", "set", "remove", "size", "isEmpty", "clear")),
        Map.entry("java.util.List", Set.of("of", "add", "get", "set", "remove", "size", "isEmpty", "clear")),
        Map.entry("java.util.Iterator", Set.of("hasNext", "next")),
        Map.entry("java.lang.Iterable", Set.of("iterator")),
        Map.entry("java.lang.Comparable", Set.of("compareTo")),
        Map.entry("java.lang.Integer", Set.of("intValue", "compareTo", "equals")),
        Map.entry("java.lang.System", Set.of("arraycopy")),
        Map.entry("java.util.Arrays", Set.of("copyOf", "copyOfRange", "fill")),
        Map.entry("Array", Set.of("clone")));

    private static int wrong = 0;

    public static void main(String[] args) throws IOException {
        Map<Element, Set<Element>> calls = callsOf(SOURCE);
        int deepest = 0;
        for (Element method : calls.keySet()) {
            if (isOfFace(method)) {
                int depth = depth(method, calls, new LinkedHashSet<>());
                deepest = Math.max(deepest, depth);
                check("calls below " + method + " go " + (depth - 1) + " deep", depth - 1 <= DEEPEST);
            }
        }
        calls.forEach((from, asked) -> asked.forEach(to -> {
            if (!calls.containsKey(to)) {
                check(from + " asks the library for " + to.getEnclosingElement() + "." + to, isAllowed(to));
            }
        }));
        check("some calls are found", deepest > 1);
        System.out.println("CallsTest: " + calls.size() + " methods, " + deepest + " calls open at once at most, "
            + wrong + " faults");
        System.exit(wrong == 0 ? 0 : 1);
    }

    private static void check(String fault, boolean holds) {
        if (!holds) {
            wrong++;
            System.out.println("CallsTest: " + fault);
        }
    }

    private static Map<Element, Set<Element>> callsOf(Path source) throws IOException {
        JavaCompiler compiler = ToolProvider.getSystemJavaCompiler();
        Map<Element, Set<Element>> calls = new LinkedHashMap<>();
        try (StandardJavaFileManager files = compiler.getStandardFileManager(null, null, null)) {
            JavacTask task = (JavacTask) compiler.getTask(null, files, null, List.of("-proc:none"), null,
                files.getJavaFileObjects(source));
            Iterable<? extends CompilationUnitTree> units = task.parse();
            task.analyze();
            for (CompilationUnitTree unit : units) {
                new Callers(Trees.instance(task), calls).scan(unit, null);
            }
        }
        return calls;
    }

    private static boolean isOfFace(Element method) {
        return method.getModifiers().contains(Modifier.PUBLIC)
            && method.getEnclosingElement().getSimpleName().contentEquals("CoinSampler");
    }

    /** How many calls stand open at most, those of the library too; recursion has a rule of its own. */
    private static int depth(Element method, Map<Element, Set<Element>> calls, Set<Element> open) {
        int below = 0;
        open.add(method);
        for (Element called : calls.getOrDefault(method, Set.of())) {
            if (!open.contains(called)) {
                below = Math.max(below, depth(called, calls, open));
            }
        }
        open.remove(method);
        return below + 1;
    }

    private static boolean isAllowed(Element called) {
        String owner = called.getEnclosingElement() instanceof TypeElement type
            ? type.getQualifiedName().toString() : "";
        String name = called.getSimpleName().toString();
        if (NUMBERS.contains(owner) && called.getModifiers().contains(Modifier.STATIC)) {
            return !name.endsWith("Exact") && !called.asType().toString().matches(".*(double|float|String).*");
        }
        return owner.startsWith("CoinSampler") || owner.equals("java.lang.Enum")
            || owner.endsWith("Exception") && called.getKind() == ElementKind.CONSTRUCTOR
            || LIBRARY.getOrDefault(owner, Set.of()).contains(name);
    }

    /** Finds for each method of a file what it calls. */
    private static final class Callers extends TreePathScanner<Void, Void> {
        private final Trees trees;
        private final Map<Element, Set<Element>> calls;
        private Element caller;

        Callers(Trees trees, Map<Element, Set<Element>> calls) {
            this.trees = trees;
            this.calls = calls;
        }

        @Override
        public Void visitMethod(MethodTree tree, Void nothing) {
            Element outer = caller;
            caller = trees.getElement(getCurrentPath());
            calls.put(caller, new LinkedHashSet<>());
            super.visitMethod(tree, nothing);
            caller = outer;
            return null;
        }

        @Override
        public Void visitMethodInvocation(MethodInvocationTree tree, Void nothing) {
            call();
            return super.visitMethodInvocation(tree, nothing);
        }

        @Override
        public Void visitNewClass(NewClassTree tree, Void nothing) {
            call();
            return super.visitNewClass(tree, nothing);
        }

        private void call() {
            Element called = trees.getElement(getCurrentPath());
            if (caller != null && called != null) {
                calls.get(caller).add(called);
            }
        }
    }
}
