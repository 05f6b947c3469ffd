import com.sun.source.tree.BinaryTree;
import com.sun.source.tree.CompilationUnitTree;
import com.sun.source.tree.CompoundAssignmentTree;
import com.sun.source.tree.ExpressionTree;
import com.sun.source.tree.MethodInvocationTree;
import com.sun.source.tree.MethodTree;
import com.sun.source.tree.NewClassTree;
import com.sun.source.tree.Tree;
import com.sun.source.util.JavacTask;
import com.sun.source.util.TreePath;
import com.sun.source.util.TreePathScanner;
import com.sun.source.util.Trees;
import java.io.IOException;
import java.nio.file.Path;
import java.util.ArrayList;
import java.util.List;
import java.util.Map;
import java.util.Set;
import java.util.TreeMap;
import java.util.TreeSet;
import javax.lang.model.element.Element;
import javax.lang.model.type.TypeMirror;
import javax.tools.JavaCompiler;
import javax.tools.StandardJavaFileManager;
import javax.tools.ToolProvider;

/** Rules 4, 8, 10 and 11 of LANGUAGE.md, seen in what the compiler makes of the source: who calls whom, how deep, what of the library. */
public final class CallsTest {
    private static final Path SOURCE = Path.of("src/main/java/LetHorizon.java");
    private static final int DEEPEST = 8;
    private static final Set<String> LIBRARY = Set.of("String.length()", "String.charAt(int)", "String.indexOf(int)",
        "Math.abs(int)", "Math.min(int,int)", "Math.max(int,int)", "Math.min(long,long)", "Math.max(long,long)",
        "Integer.bitCount(int)", "System.arraycopy(java.lang.Object,int,java.lang.Object,int,int)", "Object.Object()");
    // The two that call themselves or one another: both carry a depth that ends them.
    private static final Set<String> RECURSIVE = Set.of("Reader.readCondition(int)", "Reader.readOne(int)",
        "Thought.bestMet(int[],int[],int,int)");

    private static final Map<String, Set<String>> calls = new TreeMap<>();
    private static final Set<String> open = new TreeSet<>();
    private static int wrong = 0;

    private static void fault(String what) {
        wrong++;
        System.out.println(what);
    }

    private static String named(Element method) {
        return method.getEnclosingElement().getSimpleName() + "." + method;
    }

    /** Walks the tree and keeps, for each method, what it calls. */
    private static final class Walk extends TreePathScanner<Void, String> {
        private final Trees trees;

        private Walk(Trees trees) {
            this.trees = trees;
        }

        @Override public Void visitMethod(MethodTree tree, String within) {
            Element method = trees.getElement(getCurrentPath());
            String name = named(method);
            calls.computeIfAbsent(name, n -> new TreeSet<>());
            if (method.getModifiers().contains(javax.lang.model.element.Modifier.PUBLIC)) {
                open.add(name);
            }
            return super.visitMethod(tree, name);
        }

        @Override public Void visitMethodInvocation(MethodInvocationTree tree, String within) {
            called(trees.getElement(getCurrentPath()), within);
            if (trees.getElement(getCurrentPath()).toString().startsWith("indexOf")) {
                argumentIsChar(tree.getArguments().get(0));
            }
            return super.visitMethodInvocation(tree, within);
        }

        @Override public Void visitNewClass(NewClassTree tree, String within) {
            called(trees.getElement(getCurrentPath()), within);
            return super.visitNewClass(tree, within);
        }

        @Override public Void visitBinary(BinaryTree tree, String within) {
            if (typeOf(tree).equals("java.lang.String")) {
                joined(tree, within);
            }
            return super.visitBinary(tree, within);
        }

        @Override public Void visitCompoundAssignment(CompoundAssignmentTree tree, String within) {
            if (typeOf(tree).equals("java.lang.String")) {
                joined(tree, within);
            }
            return super.visitCompoundAssignment(tree, within);
        }

        private void joined(Tree tree, String within) {
            fault("rule 10: texts are joined by + in " + within + ": " + tree);
        }

        private String typeOf(Tree tree) {
            TypeMirror type = trees.getTypeMirror(new TreePath(getCurrentPath(), tree));
            return type == null ? "" : type.toString();
        }

        private void argumentIsChar(ExpressionTree argument) {
            if (!typeOf(argument).equals("char")) {
                fault("rule 4: indexOf of what is no char: " + argument);
            }
        }

        private void called(Element method, String within) {
            String owner = method.getEnclosingElement().toString();
            if (owner.startsWith("LetHorizon")) {
                calls.computeIfAbsent(within == null ? "fields" : within, n -> new TreeSet<>()).add(named(method));
            } else if (!LIBRARY.contains(named(method))) {
                fault("rule 4: " + within + " uses " + owner + "." + method);
            }
        }
    }

    private static void walk() throws IOException {
        JavaCompiler compiler = ToolProvider.getSystemJavaCompiler();
        if (compiler == null) {
            fault("there is no compiler beside this java");
            return;
        }
        try (StandardJavaFileManager files = compiler.getStandardFileManager(null, null, null)) {
            JavacTask task = (JavacTask) compiler.getTask(null, files, null, List.of("-proc:none"), null,
                files.getJavaFileObjects(SOURCE.toFile()));
            List<CompilationUnitTree> units = new ArrayList<>();
            task.parse().forEach(units::add);
            task.analyze();
            for (CompilationUnitTree unit : units) {
                new Walk(Trees.instance(task)).scan(unit, null);
            }
        }
    }

    private static boolean reaches(String from, String to, Set<String> seen) {
        for (String next : calls.getOrDefault(from, Set.of())) {
            if (next.equals(to) || (seen.add(next) && reaches(next, to, seen))) return true;
        }
        return false;
    }

    /** The longest chain of calls from there, each recursion gone through once. */
    private static List<String> deepest(String from, List<String> above) {
        List<String> best = new ArrayList<>(above);
        best.add(from);
        List<String> here = new ArrayList<>(best);
        for (String next : calls.getOrDefault(from, Set.of())) {
            if (here.contains(next)) continue;
            List<String> way = deepest(next, here);
            if (way.size() > best.size()) best = way;
        }
        return best;
    }

    public static void main(String[] args) throws IOException {
        walk();
        if (open.size() < 35) fault("only " + open.size() + " open methods were seen");
        for (String method : calls.keySet()) {
            if (reaches(method, method, new TreeSet<>()) && !RECURSIVE.contains(method)) {
                fault("rule 8: " + method + " calls itself");
            }
        }
        int depth = 0;
        for (String method : open) {
            List<String> way = deepest(method, List.of());
            depth = Math.max(depth, way.size());
            if (way.size() > DEEPEST) fault("rule 11: " + way.size() + " deep: " + way);
        }
        System.out.println(calls.size() + " methods, " + depth + " deep, " + wrong + " not as the rules ask");
        if (wrong != 0) System.exit(1);
    }
}
