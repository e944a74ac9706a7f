import com.sun.source.tree.CompilationUnitTree;
import com.sun.source.tree.MethodInvocationTree;
import com.sun.source.tree.MethodTree;
import com.sun.source.tree.NewClassTree;
import com.sun.source.tree.Tree;
import com.sun.source.util.JavacTask;
import com.sun.source.util.TreePathScanner;
import com.sun.source.util.Trees;
import java.nio.file.Path;
import java.util.HashMap;
import java.util.LinkedHashSet;
import java.util.List;
import java.util.Map;
import java.util.Set;
import javax.lang.model.element.Element;
import javax.lang.model.element.ExecutableElement;
import javax.lang.model.element.Modifier;
import javax.tools.JavaCompiler;
import javax.tools.StandardJavaFileManager;
import javax.tools.ToolProvider;

/** What calls what in the class, as the compiler sees it: the rules 4, 8 and 11 of LANGUAGE.md. */
public final class CallsTest {
    private static final int DEEPEST = 8;
    private static final Set<String> LIBRARY = Set.of("java.lang.Object()", "java.lang.System.arraycopy",
            "java.util.Arrays.fill", "java.lang.Math.max", "java.lang.Math.min", "java.lang.Integer.bitCount");

    private static final Due DUE = new Due("CallsTest");

    /** For each method of the file what it calls, within the file. */
    private final Map<Element, Set<Element>> calls = new HashMap<>();
    private final Map<Element, Integer> depths = new HashMap<>();
    private final Set<Element> open = new LinkedHashSet<>();

    private CallsTest() {
    }

    public static void main(String[] args) throws Exception {
        CallsTest test = new CallsTest();
        test.read();
        test.lookAtDepth();
        DUE.end();
    }

    private void read() throws Exception {
        JavaCompiler compiler = ToolProvider.getSystemJavaCompiler();
        try (StandardJavaFileManager files = compiler.getStandardFileManager(null, null, null)) {
            JavacTask task = (JavacTask) compiler.getTask(null, files, null, List.of("-proc:none"), null,
                    files.getJavaFileObjects(Path.of("src/main/java/TurnRounds.java")));
            Iterable<? extends CompilationUnitTree> units = task.parse();
            task.analyze();
            Trees trees = Trees.instance(task);
            for (CompilationUnitTree unit : units) {
                new Reader(trees).scan(unit, null);
            }
        }
    }

    /** Notes each call under the method that it stands in; what fields begin with is under no method. */
    private final class Reader extends TreePathScanner<Void, Element> {
        private final Trees trees;

        Reader(Trees trees) {
            this.trees = trees;
        }

        @Override
        public Void visitMethod(MethodTree method, Element outer) {
            Element here = trees.getElement(getCurrentPath());
            calls.computeIfAbsent(here, key -> new LinkedHashSet<>());
            return super.visitMethod(method, here);
        }

        @Override
        public Void visitMethodInvocation(MethodInvocationTree call, Element caller) {
            note(caller, call);
            return super.visitMethodInvocation(call, caller);
        }

        @Override
        public Void visitNewClass(NewClassTree made, Element caller) {
            note(caller, made);
            return super.visitNewClass(made, caller);
        }

        private void note(Element caller, Tree call) {
            Element called = trees.getElement(getCurrentPath());
            String owner = called.getEnclosingElement().toString();
            boolean isOwn = owner.equals("TurnRounds") || owner.startsWith("TurnRounds.");
            boolean isMaking = called.getSimpleName().contentEquals("<init>");
            String name = owner + (isMaking ? "()" : "." + called.getSimpleName());
            DUE.so("4 the library: " + name + " in " + caller, isOwn || LIBRARY.contains(name));
            if (isOwn && caller != null) {
                calls.computeIfAbsent(caller, key -> new LinkedHashSet<>()).add(called);
            }
        }
    }

    private void lookAtDepth() {
        int found = 0;
        for (Element method : Set.copyOf(calls.keySet())) {
            if (method.getModifiers().contains(Modifier.PUBLIC)) {
                found += method instanceof ExecutableElement ? 1 : 0;
                int depth = depth(method);
                DUE.so("11 calls " + depth + " deep from " + method, depth <= DEEPEST);
            }
        }
        DUE.is("1 the constructor and the calls of the face", found, 28);
        for (Element method : calls.keySet()) {
            DUE.so("no call comes to " + method + " of " + method.getEnclosingElement(),
                    depths.containsKey(method) || method.getSimpleName().contentEquals("<init>"));
        }
    }

    /** How many methods stand open at once, this one among them. */
    private int depth(Element method) {
        if (!open.add(method)) {
            DUE.so("8 calls itself: " + method, false);
            return 0;
        }
        Integer known = depths.get(method);
        int deepest = 0;
        if (known == null) {
            for (Element called : calls.getOrDefault(method, Set.of())) {
                deepest = Math.max(deepest, depth(called));
            }
        }
        open.remove(method);
        int depth = known == null ? deepest + 1 : known;
        depths.put(method, depth);
        return depth;
    }
}
