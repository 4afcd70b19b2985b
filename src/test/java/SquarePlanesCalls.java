import com.sun.source.tree.CompilationUnitTree;
import com.sun.source.tree.MethodInvocationTree;
import com.sun.source.tree.MethodTree;
import com.sun.source.tree.NewClassTree;
import com.sun.source.tree.Tree;
import com.sun.source.util.JavacTask;
import com.sun.source.util.TreePathScanner;
import com.sun.source.util.Trees;
import java.io.IOException;
import java.nio.file.Path;
import java.util.ArrayList;
import java.util.LinkedHashMap;
import java.util.LinkedHashSet;
import java.util.List;
import java.util.Map;
import java.util.Set;
import javax.lang.model.element.Element;
import javax.tools.JavaCompiler;
import javax.tools.StandardJavaFileManager;
import javax.tools.ToolProvider;

/**
 * Rules of LANGUAGE.md on the compiler's own tree of the program: kinds of code, library, depth of calls.
 * The rules allow recursion with a guard on its depth; the program has none, and so needs none.
 */
public final class SquarePlanesCalls {
    private static final Path SOURCE = Path.of("src/main/java/SquarePlanes.java");
    private static final int DEEPEST = 8;
    /** What the program needs of the library that the rules leave; more may be put here, if they allow it. */
    private static final Set<String> LIBRARY = Set.of("Object.Object", "Math.abs", "Math.min", "Math.max", "Arrays.fill");
    private static final Set<Tree.Kind> FORBIDDEN = Set.of(Tree.Kind.THROW, Tree.Kind.TRY, Tree.Kind.SYNCHRONIZED,
        Tree.Kind.ASSERT, Tree.Kind.LAMBDA_EXPRESSION, Tree.Kind.MEMBER_REFERENCE);

    private static final Map<String, Set<String>> calls = new LinkedHashMap<>();
    private static int wrong = 0;

    private static void tell(String text) {
        wrong++;
        System.out.println(text);
    }

    /** Collects which method calls which, and tells of what the rules leave out. */
    private static final class Reader extends TreePathScanner<Void, Void> {
        private final Trees trees;
        private String method = "";

        Reader(Trees trees) {
            this.trees = trees;
        }

        private static String nameOf(Element method) {
            String inside = method.getEnclosingElement().getSimpleName().toString();
            String name = method.getSimpleName().toString();
            return inside + "." + (name.equals("<init>") ? inside : name);
        }

        private String nameHere() {
            return nameOf(trees.getElement(getCurrentPath()));
        }

        @Override public Void scan(Tree tree, Void none) {
            if (tree != null && FORBIDDEN.contains(tree.getKind())) tell(method + " has " + tree.getKind() + ": " + tree);
            return super.scan(tree, none);
        }

        @Override public Void visitMethod(MethodTree tree, Void none) {
            method = nameHere();
            if (calls.put(method, new LinkedHashSet<>()) != null) tell("two methods are called " + method);
            return super.visitMethod(tree, none);
        }

        @Override public Void visitMethodInvocation(MethodInvocationTree tree, Void none) {
            called();
            return super.visitMethodInvocation(tree, none);
        }

        @Override public Void visitNewClass(NewClassTree tree, Void none) {
            if (tree.getClassBody() != null) tell(method + " has a class without a name");
            called();
            return super.visitNewClass(tree, none);
        }

        private void called() {
            if (calls.containsKey(method)) calls.get(method).add(nameHere());
            else tell(nameHere() + " is called outside of a method");
        }
    }

    private static void readProgram() throws IOException {
        JavaCompiler compiler = ToolProvider.getSystemJavaCompiler();
        try (StandardJavaFileManager files = compiler.getStandardFileManager(null, null, null)) {
            JavacTask task = (JavacTask) compiler.getTask(null, files, null, List.of("-proc:none"), null,
                files.getJavaFileObjects(SOURCE));
            Iterable<? extends CompilationUnitTree> units = task.parse();
            task.analyze();
            for (CompilationUnitTree unit : units) new Reader(Trees.instance(task)).scan(unit, null);
        }
    }

    private static void searchForLibrary() {
        for (Map.Entry<String, Set<String>> each : calls.entrySet()) {
            for (String name : each.getValue()) {
                if (!calls.containsKey(name) && !LIBRARY.contains(name)) tell(each.getKey() + " calls " + name);
            }
        }
    }

    /** The way holds the calls that stand open at once, the library's among them. */
    private static void goDown(String method, List<String> way) {
        if (way.contains(method)) {
            tell("recursion: " + way + " calls " + method);
            return;
        }
        way.add(method);
        if (way.size() > DEEPEST) tell("more than " + DEEPEST + " deep: " + way);
        else for (String next : calls.getOrDefault(method, Set.of())) goDown(next, way);
        way.remove(way.size() - 1);
    }

    public static void main(String[] args) throws IOException {
        readProgram();
        if (calls.size() < 24) tell("only " + calls.size() + " methods were found");
        searchForLibrary();
        for (String method : calls.keySet()) goDown(method, new ArrayList<>());
        System.out.println(wrong == 0 ? "calls are as the language's rules want" : wrong + " faults");
        if (wrong != 0) System.exit(1);
    }
}
