import com.sun.source.tree.ClassTree;
import com.sun.source.tree.CompilationUnitTree;
import com.sun.source.tree.MethodInvocationTree;
import com.sun.source.tree.MethodTree;
import com.sun.source.tree.NewArrayTree;
import com.sun.source.tree.NewClassTree;
import com.sun.source.tree.ThrowTree;
import com.sun.source.util.JavacTask;
import com.sun.source.util.TreePathScanner;
import com.sun.source.util.Trees;
import java.io.IOException;
import java.nio.file.Path;
import java.util.ArrayList;
import java.util.HashMap;
import java.util.LinkedHashMap;
import java.util.LinkedHashSet;
import java.util.List;
import java.util.Map;
import java.util.Set;
import javax.lang.model.element.Element;
import javax.lang.model.element.ElementKind;
import javax.lang.model.element.ExecutableElement;
import javax.tools.JavaCompiler;
import javax.tools.StandardJavaFileManager;
import javax.tools.ToolProvider;

/** LANGUAGE.md on calls, seen from the class as the compiler reads it: how deep they go and what they make. */
public final class CallsTest extends Checks {
    private static final int DEEPEST = 8;
    private static final Set<String> THROWN = Set.of("YardRings.look(int,int,int) throws IndexOutOfBoundsException",
        "YardRings.look(int,int,int) throws NoSuchElementException");

    /** Which method calls which, the library's too. */
    private final Map<String, Set<String>> calls = new LinkedHashMap<>();
    private final Map<String, Integer> depths = new HashMap<>();
    private final Set<String> open = new LinkedHashSet<>();
    private final List<String> made = new ArrayList<>();
    private final List<String> thrown = new ArrayList<>();

    public static void main(String[] args) throws IOException {
        new CallsTest().look();
        end();
    }

    private void look() throws IOException {
        JavaCompiler compiler = ToolProvider.getSystemJavaCompiler();
        try (StandardJavaFileManager files = compiler.getStandardFileManager(null, null, null)) {
            JavacTask task = (JavacTask) compiler.getTask(null, files, null, List.of("-proc:none"), null,
                files.getJavaFileObjects(Path.of("src/main/java/YardRings.java")));
            Iterable<? extends CompilationUnitTree> units = task.parse();
            task.analyze();
            Trees trees = Trees.instance(task);
            for (CompilationUnitTree unit : units) {
                new Reader(trees).scan(unit, null);
            }
        }
        says("LANGUAGE.md 11: calls that are no recursion go at most eight deep");
        for (String method : calls.keySet()) {
            yes(method + " is " + depthOf(method) + " deep", depthOf(method) <= DEEPEST);
        }
        says("LANGUAGE.md 12: what a run makes is counted; rows are made in constructors and used again");
        for (String one : made) {
            yes(one, false);
        }
        says("LANGUAGE.md 6: a call of the face throws exactly what and where the document says");
        for (String one : thrown) {
            yes(one, THROWN.contains(one));
        }
        due("look() alone throws, twice", thrown.size(), 2);
        yes("the face was read", calls.containsKey("YardRings.feed(int,int,int,int,int)"));
    }

    /** A method that comes round to itself would have no depth, so that is told and counts as too deep. */
    private int depthOf(String method) {
        Integer known = depths.get(method);
        if (known != null) {
            return known;
        }
        if (!open.add(method)) {
            return DEEPEST + 1;
        }
        int deepest = 0;
        for (String called : calls.getOrDefault(method, Set.of())) {
            deepest = Math.max(deepest, depthOf(called));
        }
        open.remove(method);
        depths.put(method, deepest + 1);
        return deepest + 1;
    }

    private final class Reader extends TreePathScanner<Void, Void> {
        private final Trees trees;
        private String within = "";
        private boolean constructs = false;

        Reader(Trees trees) {
            this.trees = trees;
        }

        @Override
        public Void visitClass(ClassTree tree, Void none) {
            String before = within;
            within = "";
            super.visitClass(tree, none);
            within = before;
            return null;
        }

        @Override
        public Void visitMethod(MethodTree tree, Void none) {
            Element method = trees.getElement(getCurrentPath());
            within = nameOf(method);
            constructs = method.getKind() == ElementKind.CONSTRUCTOR;
            calls.putIfAbsent(within, new LinkedHashSet<>());
            super.visitMethod(tree, none);
            within = "";
            return null;
        }

        @Override
        public Void visitMethodInvocation(MethodInvocationTree tree, Void none) {
            Element called = trees.getElement(getCurrentPath());
            if (!within.isEmpty() && called instanceof ExecutableElement) {
                calls.get(within).add(nameOf(called));
            }
            return super.visitMethodInvocation(tree, none);
        }

        @Override
        public Void visitThrow(ThrowTree tree, Void none) {
            boolean plain = tree.getExpression() instanceof NewClassTree;
            thrown.add(within + " throws " + (plain ? ((NewClassTree) tree.getExpression()).getIdentifier() : "another's"));
            return null;
        }

        @Override
        public Void visitNewClass(NewClassTree tree, Void none) {
            makes(tree.getIdentifier().toString());
            return super.visitNewClass(tree, none);
        }

        @Override
        public Void visitNewArray(NewArrayTree tree, Void none) {
            makes(String.valueOf(tree.getType()));
            return super.visitNewArray(tree, none);
        }

        /** Fields' first values, constructors and what they alone call may make something. */
        private void makes(String what) {
            if (!within.isEmpty() && !constructs && !within.contains(".lettersOfLanguage(")) {
                made.add(within + " makes " + what);
            }
        }

        private String nameOf(Element method) {
            return method.getEnclosingElement().getSimpleName() + "." + method;
        }
    }
}
