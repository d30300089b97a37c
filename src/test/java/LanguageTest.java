import com.sun.source.tree.BinaryTree;
import com.sun.source.tree.ClassTree;
import com.sun.source.tree.CompilationUnitTree;
import com.sun.source.tree.ForLoopTree;
import com.sun.source.tree.LiteralTree;
import com.sun.source.tree.MethodInvocationTree;
import com.sun.source.tree.MethodTree;
import com.sun.source.tree.NewArrayTree;
import com.sun.source.tree.NewClassTree;
import com.sun.source.tree.Tree;
import com.sun.source.tree.VariableTree;
import com.sun.source.util.JavacTask;
import com.sun.source.util.TreePath;
import com.sun.source.util.TreePathScanner;
import com.sun.source.util.Trees;
import java.nio.file.Path;
import java.util.EnumSet;
import java.util.LinkedHashSet;
import java.util.List;
import java.util.Map;
import java.util.Set;
import java.util.TreeMap;
import javax.lang.model.element.Element;
import javax.lang.model.element.ElementKind;
import javax.lang.model.element.Modifier;
import javax.lang.model.type.TypeKind;
import javax.tools.JavaCompiler;
import javax.tools.StandardJavaFileManager;
import javax.tools.ToolProvider;

/** The rules of ../shared/LANGUAGE.md, looked up in the tree that the compiler makes of the class. */
final class LanguageTest {
    private static final Check CHECK = new Check("LanguageTest");
    private static final int MOST_DEEP = 8, MOST_LINES = 60, MOST_PARAMETERS = 7, MOST_CLASSES = 12, MOST_FIELDS = 20;
    /** Of the library this much is used; rule 4 lists more. */
    private static final Set<String> LIBRARY = Set.of("Math.max(int,int)", "Math.min(int,int)", "Object.Object()");
    /** Types that rule 3 leaves and the class uses; its own classes come on top. */
    private static final Set<String> TYPES = Set.of("int", "long", "boolean", "int[]", "void");
    private static final Set<Tree.Kind> BARRED = EnumSet.of(Tree.Kind.THROW, Tree.Kind.TRY, Tree.Kind.CATCH,
            Tree.Kind.SYNCHRONIZED, Tree.Kind.ASSERT, Tree.Kind.LAMBDA_EXPRESSION, Tree.Kind.MEMBER_REFERENCE,
            Tree.Kind.INSTANCE_OF, Tree.Kind.ANNOTATION, Tree.Kind.IMPORT, Tree.Kind.PACKAGE,
            // Not barred, but without them every loop's bound stands in its head.
            Tree.Kind.WHILE_LOOP, Tree.Kind.DO_WHILE_LOOP);

    private final Trees trees;
    private final CompilationUnitTree unit;
    private final Map<String, Set<String>> calls = new TreeMap<>();
    private int classes;

    private LanguageTest(Trees trees, CompilationUnitTree unit) {
        this.trees = trees;
        this.unit = unit;
    }

    public static void main(String[] args) throws Exception {
        Path source = Path.of(System.getProperty("project.root", "."), "src/main/java/OrphanLogs.java");
        JavaCompiler compiler = ToolProvider.getSystemJavaCompiler();
        try (StandardJavaFileManager files = compiler.getStandardFileManager(null, null, null)) {
            JavacTask task = (JavacTask) compiler.getTask(null, files, null, List.of("--release", "17", "-proc:none"), null,
                    files.getJavaFileObjects(source));
            CompilationUnitTree unit = task.parse().iterator().next();
            task.analyze();
            LanguageTest test = new LanguageTest(Trees.instance(task), unit);
            test.new Look().scan(unit, null);
            test.depths();
        }
        CHECK.close();
    }

    private long line(Tree tree) {
        return unit.getLineMap().getLineNumber(trees.getSourcePositions().getStartPosition(unit, tree));
    }

    private String where(Tree tree, String what) {
        return "line " + line(tree) + ": " + what;
    }

    /** Its class, its name and what it takes: no two methods have the same. */
    private static String nameOf(Element method) {
        String of = method.getEnclosingElement().getSimpleName().toString();
        return of + "." + method.toString().replaceAll("[\\w.]*\\.", "");
    }

    private static boolean isOwn(Element e) {
        Element top = e;
        while (top.getEnclosingElement() != null && top.getEnclosingElement().getKind() != ElementKind.PACKAGE) {
            top = top.getEnclosingElement();
        }
        return top.getSimpleName().contentEquals("OrphanLogs");
    }

    /** No call comes back to itself, and the longest chain of calls is short. */
    private void depths() {
        int deepest = 0;
        for (String method : calls.keySet()) deepest = Math.max(deepest, depth(method, new LinkedHashSet<>()));
        CHECK.holds("calls go " + deepest + " deep, at most " + MOST_DEEP + " are allowed", deepest <= MOST_DEEP);
        CHECK.holds("chains of calls were found", deepest > 1);
        CHECK.holds("at most twelve classes", classes <= MOST_CLASSES);
    }

    private int depth(String method, Set<String> open) {
        if (!open.add(method)) {
            CHECK.holds("no recursion: " + open + " again " + method, false);
            return 1;
        }
        int below = 0;
        for (String called : calls.getOrDefault(method, Set.of())) below = Math.max(below, depth(called, open));
        open.remove(method);
        return below + 1;
    }

    /** Walks the whole tree once. */
    private final class Look extends TreePathScanner<Void, Void> {
        @Override
        public Void scan(Tree tree, Void none) {
            if (tree != null) CHECK.holds(where(tree, tree.getKind() + " is not used"), !BARRED.contains(tree.getKind()));
            return super.scan(tree, none);
        }

        @Override
        public Void visitClass(ClassTree type, Void none) {
            classes++;
            Element e = trees.getElement(getCurrentPath());
            boolean inside = e.getEnclosingElement().getKind() == ElementKind.CLASS;
            boolean top = e.getEnclosingElement().getKind() == ElementKind.PACKAGE;
            CHECK.holds(where(type, "a class of the file or one nested in it"), inside || top);
            if (inside) CHECK.holds(where(type, "static and final"), e.getModifiers().containsAll(Set.of(Modifier.STATIC, Modifier.FINAL)));
            long fields = type.getMembers().stream().filter(m -> m instanceof VariableTree v
                    && !v.getModifiers().getFlags().contains(Modifier.STATIC)).count();
            CHECK.holds(where(type, "at most twenty fields"), fields <= MOST_FIELDS);
            for (Tree m : type.getMembers()) {
                CHECK.holds(where(m, "no initialiser block"), m.getKind() != Tree.Kind.BLOCK);
            }
            return super.visitClass(type, none);
        }

        @Override
        public Void visitMethod(MethodTree method, Void none) {
            long last = unit.getLineMap().getLineNumber(trees.getSourcePositions().getEndPosition(unit, method));
            CHECK.holds(where(method, "a short method"), last - line(method) < MOST_LINES);
            CHECK.holds(where(method, "at most seven parameters"), method.getParameters().size() <= MOST_PARAMETERS);
            if (method.getReturnType() != null) typeIsAllowed(method.getReturnType());
            calls.computeIfAbsent(nameOf(trees.getElement(getCurrentPath())), m -> new LinkedHashSet<>());
            return super.visitMethod(method, none);
        }

        @Override
        public Void visitVariable(VariableTree variable, Void none) {
            Element e = trees.getElement(getCurrentPath());
            if (variable.getType() != null) typeIsAllowed(variable.getType());
            if (e.getModifiers().contains(Modifier.STATIC)) {
                CHECK.holds(where(variable, "a static field is final"), e.getModifiers().contains(Modifier.FINAL));
                CHECK.holds(where(variable, "a static field is a number"), e.asType().getKind() == TypeKind.INT);
            }
            return super.visitVariable(variable, none);
        }

        private void typeIsAllowed(Tree type) {
            String name = type.toString();
            boolean own = Set.of("Tally", "Rests", "Clerk", "Clerk[]", "Post", "Sayings", "Loss", "Office", "Text", "Reader")
                    .contains(name);
            CHECK.holds(where(type, "type " + name), own || TYPES.contains(name));
        }

        @Override
        public Void visitMethodInvocation(MethodInvocationTree call, Void none) {
            called(trees.getElement(getCurrentPath()), call);
            return super.visitMethodInvocation(call, none);
        }

        @Override
        public Void visitNewClass(NewClassTree made, Void none) {
            CHECK.holds(where(made, "no class without a name"), made.getClassBody() == null);
            madeInAConstructor(made);
            called(trees.getElement(getCurrentPath()), made);
            return super.visitNewClass(made, none);
        }

        @Override
        public Void visitNewArray(NewArrayTree made, Void none) {
            madeInAConstructor(made);
            return super.visitNewArray(made, none);
        }

        /** So that no call makes anything that the room would have to hold. */
        private void madeInAConstructor(Tree made) {
            Tree method = around(Tree.Kind.METHOD);
            boolean atFirst = method == null || ((MethodTree) method).getName().contentEquals("<init>");
            CHECK.holds(where(made, "made in a constructor"), atFirst);
        }

        /** Of a field's initialiser: what it makes is made by the constructor of its class. */
        private void called(Element callee, Tree call) {
            Tree method = around(Tree.Kind.METHOD);
            String caller = method == null ? null : nameOf(trees.getElement(pathOf(Tree.Kind.METHOD)));
            if (!isOwn(callee)) {
                CHECK.holds(where(call, nameOf(callee) + " of the library"), LIBRARY.contains(nameOf(callee)));
            } else if (caller != null) {
                calls.computeIfAbsent(caller, m -> new LinkedHashSet<>()).add(nameOf(callee));
            }
        }

        private Tree around(Tree.Kind kind) {
            TreePath path = pathOf(kind);
            return path == null ? null : path.getLeaf();
        }

        private TreePath pathOf(Tree.Kind kind) {
            for (TreePath p = getCurrentPath(); p != null; p = p.getParentPath()) {
                if (p.getLeaf().getKind() == kind) return p;
            }
            return null;
        }

        @Override
        public Void visitForLoop(ForLoopTree loop, Void none) {
            CHECK.holds(where(loop, "a loop has a bound and a step"), loop.getCondition() != null && loop.getUpdate().size() == 1);
            return super.visitForLoop(loop, none);
        }

        @Override
        public Void visitBinary(BinaryTree two, Void none) {
            if (two.getKind() == Tree.Kind.DIVIDE || two.getKind() == Tree.Kind.REMAINDER) divisorIsSafe(two);
            return super.visitBinary(two, none);
        }

        /** A number other than 0 written out, or what leftOver has looked at. */
        private void divisorIsSafe(BinaryTree two) {
            Tree by = two.getRightOperand();
            boolean number = by instanceof LiteralTree l && l.getValue() instanceof Number v && v.longValue() != 0;
            Tree method = around(Tree.Kind.METHOD);
            boolean lookedAt = method != null && ((MethodTree) method).getName().contentEquals("leftOver")
                    && two.toString().equals("x % by");
            CHECK.holds(where(two, "divided by " + by), number || lookedAt);
        }
    }
}
