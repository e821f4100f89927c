import com.sun.source.tree.BinaryTree;
import com.sun.source.tree.CompilationUnitTree;
import com.sun.source.tree.ForLoopTree;
import com.sun.source.tree.MethodInvocationTree;
import com.sun.source.tree.MethodTree;
import com.sun.source.tree.NewArrayTree;
import com.sun.source.tree.NewClassTree;
import com.sun.source.tree.Tree;
import com.sun.source.util.JavacTask;
import com.sun.source.util.TreePath;
import com.sun.source.util.TreePathScanner;
import com.sun.source.util.Trees;
import java.io.File;
import java.io.IOException;
import java.util.EnumSet;
import java.util.HashMap;
import java.util.HashSet;
import java.util.LinkedHashSet;
import java.util.List;
import java.util.Map;
import java.util.Set;
import java.util.TreeMap;
import java.util.TreeSet;
import javax.lang.model.element.Element;
import javax.lang.model.type.TypeKind;
import javax.tools.JavaCompiler;
import javax.tools.StandardJavaFileManager;
import javax.tools.ToolProvider;

/** Rules of ../shared/LANGUAGE.md that the compiler's tree shows: how deep calls go, loops, what is made where. */
final class TreeTest {
    private static final Set<Tree.Kind> REFUSED = EnumSet.of(Tree.Kind.TRY, Tree.Kind.THROW, Tree.Kind.CATCH,
        Tree.Kind.SYNCHRONIZED, Tree.Kind.ASSERT, Tree.Kind.LAMBDA_EXPRESSION, Tree.Kind.MEMBER_REFERENCE,
        Tree.Kind.WHILE_LOOP, Tree.Kind.DO_WHILE_LOOP, Tree.Kind.TYPE_CAST, Tree.Kind.INSTANCE_OF);
    /** The one cast: a byte of a text made a sign to look for. */
    private static final int CASTS = 2;

    private final Map<String, Set<String>> calls = new TreeMap<>();
    private final Map<String, Integer> depths = new HashMap<>();
    private final Set<String> recursive = new TreeSet<>();
    private int casts = 0;
    private String method = "";

    private TreeTest() {
    }

    private final class Reader extends TreePathScanner<Void, Void> {
        private final Trees trees;
        private final CompilationUnitTree unit;

        Reader(Trees trees, CompilationUnitTree unit) {
            this.trees = trees;
            this.unit = unit;
        }

        private long line(Tree tree) {
            return unit.getLineMap().getLineNumber(trees.getSourcePositions().getStartPosition(unit, tree));
        }

        private String name(Element e) {
            return e.getEnclosingElement() + "." + e;
        }

        @Override
        public Void scan(Tree tree, Void none) {
            if (tree != null && tree.getKind() == Tree.Kind.TYPE_CAST) {
                casts++;
            } else if (tree != null && REFUSED.contains(tree.getKind())) {
                Check.due("no " + tree.getKind() + " at line " + line(tree), false, true);
            }
            return super.scan(tree, none);
        }

        @Override
        public Void visitMethod(MethodTree tree, Void none) {
            method = name(trees.getElement(getCurrentPath()));
            calls.put(method, new LinkedHashSet<>());
            long end = trees.getSourcePositions().getEndPosition(unit, tree);
            long lines = unit.getLineMap().getLineNumber(end) - line(tree) + 1;
            Check.due(method + " is short", lines <= 60, true);
            Check.due(method + " takes few parameters", tree.getParameters().size() <= 7, true);
            super.visitMethod(tree, none);
            method = "";
            return null;
        }

        @Override
        public Void visitMethodInvocation(MethodInvocationTree tree, Void none) {
            Element called = trees.getElement(new TreePath(getCurrentPath(), tree.getMethodSelect()));
            if (!method.isEmpty() && called != null) {
                calls.get(method).add(name(called));
            }
            return super.visitMethodInvocation(tree, none);
        }

        @Override
        public Void visitForLoop(ForLoopTree tree, Void none) {
            Check.due("the loop at line " + line(tree) + " has a bound", tree.getCondition() != null, true);
            return super.visitForLoop(tree, none);
        }

        @Override
        public Void visitNewClass(NewClassTree tree, Void none) {
            boolean isMade = method.isEmpty() || method.equals("GiantHeart.GiantHeart()");
            Check.due("made in a constructor, line " + line(tree), isMade, true);
            return super.visitNewClass(tree, none);
        }

        @Override
        public Void visitNewArray(NewArrayTree tree, Void none) {
            Check.due("a row made in a constructor, line " + line(tree), method.isEmpty(), true);
            return super.visitNewArray(tree, none);
        }

        @Override
        public Void visitBinary(BinaryTree tree, Void none) {
            boolean isText = trees.getTypeMirror(getCurrentPath()).getKind() == TypeKind.DECLARED;
            Check.due("no text joined by + at line " + line(tree), isText, false);
            return super.visitBinary(tree, none);
        }
    }

    private boolean reaches(String from, String to, Set<String> seen) {
        for (String next : calls.getOrDefault(from, Set.of())) {
            if (next.equals(to) || (seen.add(next) && reaches(next, to, seen))) {
                return true;
            }
        }
        return false;
    }

    /** The methods of the longest chain of calls from here, what calls itself counted once. */
    private int depth(String from) {
        if (!calls.containsKey(from)) {
            return 0;
        }
        Integer known = depths.get(from);
        if (known != null) {
            return known;
        }
        int most = 0;
        for (String next : calls.get(from)) {
            if (!reaches(next, from, new HashSet<>())) {
                most = Math.max(most, depth(next));
            } else if (!next.equals(from)) {
                // another one of the same ring: its own way down counts from here
                for (String behind : calls.get(next)) {
                    most = Math.max(most, reaches(behind, from, new HashSet<>()) ? 0 : 1 + depth(behind));
                }
            }
        }
        depths.put(from, most + 1);
        return most + 1;
    }

    public static void main(String[] args) throws IOException {
        TreeTest test = new TreeTest();
        JavaCompiler compiler = ToolProvider.getSystemJavaCompiler();
        try (StandardJavaFileManager files = compiler.getStandardFileManager(null, null, null)) {
            JavacTask task = (JavacTask) compiler.getTask(null, files, null, List.of("-proc:none"), null,
                files.getJavaFileObjects(new File("src/main/java/GiantHeart.java")));
            Iterable<? extends CompilationUnitTree> units = task.parse();
            task.analyze();
            for (CompilationUnitTree unit : units) {
                test.new Reader(Trees.instance(task), unit).scan(unit, null);
            }
        }
        for (String method : test.calls.keySet()) {
            Check.due(method + " goes " + test.depth(method) + " deep", test.depth(method) <= 8, true);
            if (test.reaches(method, method, new HashSet<>())) {
                test.recursive.add(method.substring(0, method.indexOf('(')));
            }
        }
        Check.due("those that recurse, with a depth carried: " + test.recursive, test.recursive.equals(Set.of(
            "GiantHeart.Law.readSum", "GiantHeart.Law.readFactor", "GiantHeart.Law.readCondition",
            "GiantHeart.Law.readPiece", "GiantHeart.Planner.follow")), true);
        Check.due("casts", test.casts, CASTS);
        Check.end("TreeTest");
    }
}
