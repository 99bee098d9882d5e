import com.sun.source.tree.AssertTree;
import com.sun.source.tree.ClassTree;
import com.sun.source.tree.CompilationUnitTree;
import com.sun.source.tree.ImportTree;
import com.sun.source.tree.LambdaExpressionTree;
import com.sun.source.tree.LineMap;
import com.sun.source.tree.MemberReferenceTree;
import com.sun.source.tree.MethodInvocationTree;
import com.sun.source.tree.MethodTree;
import com.sun.source.tree.NewClassTree;
import com.sun.source.tree.SynchronizedTree;
import com.sun.source.tree.ThrowTree;
import com.sun.source.tree.Tree;
import com.sun.source.tree.TryTree;
import com.sun.source.tree.VariableTree;
import com.sun.source.tree.WhileLoopTree;
import com.sun.source.util.JavacTask;
import com.sun.source.util.TreePathScanner;
import com.sun.source.util.Trees;
import java.io.File;
import java.io.IOException;
import java.util.ArrayDeque;
import java.util.Deque;
import java.util.HashMap;
import java.util.LinkedHashSet;
import java.util.Map;
import java.util.Set;
import javax.lang.model.element.Element;
import javax.lang.model.element.Modifier;
import javax.tools.JavaCompiler;
import javax.tools.StandardJavaFileManager;
import javax.tools.ToolProvider;

/** Those rules of LANGUAGE.md that can be counted or seen in the program's text. */
public final class LanguageTest {
    private static final String PROGRAM = "src/main/java/CrashRounds.java";
    private static final Set<String> LIBRARY = Set.of("java.util.Arrays", "java.util.ArrayList",
            "java.util.List", "java.util.Iterator", "java.util.NoSuchElementException");
    private static final Set<String> FACE = Set.of("start", "input", "crash", "spare", "step", "run",
            "again", "decided", "decidedIn", "knows", "vector", "heard", "count", "breach", "search",
            "found", "replay");
    private static final int MOST_PARAMETERS = 7;
    private static final int MOST_LINES = 60;
    private static final int MOST_CALLS_OPEN = 8;
    private static final int MOST_CLASSES = 12;
    private static final int MOST_FIELDS = 20;

    private static int wrong = 0;

    public static void main(String[] args) throws IOException {
        JavaCompiler compiler = ToolProvider.getSystemJavaCompiler();
        try (StandardJavaFileManager files = compiler.getStandardFileManager(null, null, null)) {
            JavacTask task = (JavacTask) compiler.getTask(null, files, null, null, null,
                    files.getJavaFileObjects(new File(PROGRAM)));
            CompilationUnitTree unit = task.parse().iterator().next();
            task.analyze();
            Reader reader = new Reader(unit, Trees.instance(task));
            reader.scan(unit, null);
            check(11, reader.classes <= MOST_CLASSES, reader.classes + " classes");
            checkDepth(reader.calls);
        }
        System.out.println(wrong == 0 ? "the rules are kept" : wrong + " rules are not kept");
        if (wrong != 0) {
            System.exit(1);
        }
    }

    private static void check(int rule, boolean holds, String what) {
        if (!holds) {
            wrong++;
            System.out.println("LANGUAGE.md, rule " + rule + ": " + what);
        }
    }

    /** Calls of the face are the first that stand open; there is no recursion in this program. */
    private static void checkDepth(Map<Element, Set<Element>> calls) {
        for (Element method : calls.keySet()) {
            Deque<Element> open = new ArrayDeque<>();
            if (method.getModifiers().contains(Modifier.PUBLIC)) {
                follow(method, open, calls);
            }
        }
    }

    private static void follow(Element method, Deque<Element> open,
            Map<Element, Set<Element>> calls) {
        boolean recursion = open.contains(method);
        check(8, !recursion, "recursion of " + method);
        open.addLast(method);
        check(11, open.size() <= MOST_CALLS_OPEN, "calls go too deep: " + open);
        if (!recursion && open.size() <= MOST_CALLS_OPEN) {
            for (Element called : calls.getOrDefault(method, Set.of())) {
                follow(called, open, calls);
            }
        }
        open.removeLast();
    }

    private static final class Reader extends TreePathScanner<Void, Void> {
        final Map<Element, Set<Element>> calls = new HashMap<>();
        int classes = 0;
        private final CompilationUnitTree unit;
        private final Trees trees;
        private Element reading;

        Reader(CompilationUnitTree unit, Trees trees) {
            this.unit = unit;
            this.trees = trees;
        }

        private long line(long position) {
            LineMap lines = unit.getLineMap();
            return lines.getLineNumber(position);
        }

        private void refuse(int rule, Tree tree, String what) {
            long position = trees.getSourcePositions().getStartPosition(unit, tree);
            check(rule, false, what + " in line " + line(position));
        }

        @Override
        public Void visitImport(ImportTree tree, Void none) {
            String name = tree.getQualifiedIdentifier().toString();
            check(4, LIBRARY.contains(name) && !tree.isStatic(), "import of " + name);
            return super.visitImport(tree, none);
        }

        @Override
        public Void visitClass(ClassTree tree, Void none) {
            classes++;
            int fields = 0;
            for (Tree member : tree.getMembers()) {
                if (member.getKind() == Tree.Kind.BLOCK) {
                    refuse(5, member, "a block of a class");
                }
                if (member instanceof VariableTree) {
                    Set<Modifier> modifiers = ((VariableTree) member).getModifiers().getFlags();
                    boolean constant = modifiers.contains(Modifier.STATIC);
                    check(5, !constant || modifiers.contains(Modifier.FINAL),
                            "a static field is final: " + member);
                    fields += constant ? 0 : 1;
                }
            }
            check(11, fields <= MOST_FIELDS, fields + " fields of " + tree.getSimpleName());
            return super.visitClass(tree, none);
        }

        @Override
        public Void visitMethod(MethodTree tree, Void none) {
            Element method = trees.getElement(getCurrentPath());
            String name = tree.getName().toString();
            boolean shown = method.getModifiers().contains(Modifier.PUBLIC);
            check(1, shown || !FACE.contains(name), name + " is a method of the face");
            check(11, tree.getParameters().size() <= MOST_PARAMETERS, "parameters of " + name);
            long first = line(trees.getSourcePositions().getStartPosition(unit, tree));
            long last = line(trees.getSourcePositions().getEndPosition(unit, tree));
            check(11, last - first < MOST_LINES, name + " is " + (last - first + 1) + " lines long");
            reading = method;
            calls.put(method, new LinkedHashSet<>());
            super.visitMethod(tree, none);
            reading = null;
            return null;
        }

        @Override
        public Void visitMethodInvocation(MethodInvocationTree tree, Void none) {
            Element called = trees.getElement(getCurrentPath());
            if (called.getSimpleName().toString().endsWith("Exact")) {
                refuse(4, tree, called + "");
            }
            note(called);
            return super.visitMethodInvocation(tree, none);
        }

        @Override
        public Void visitNewClass(NewClassTree tree, Void none) {
            note(trees.getElement(getCurrentPath()));
            return super.visitNewClass(tree, none);
        }

        /** Outside of methods there are only the fields' first values. */
        private void note(Element called) {
            if (reading != null) {
                calls.get(reading).add(called);
            }
        }

        @Override
        public Void visitLambdaExpression(LambdaExpressionTree tree, Void none) {
            refuse(2, tree, "a lambda");
            return super.visitLambdaExpression(tree, none);
        }

        @Override
        public Void visitMemberReference(MemberReferenceTree tree, Void none) {
            refuse(2, tree, "a method reference");
            return super.visitMemberReference(tree, none);
        }

        @Override
        public Void visitSynchronized(SynchronizedTree tree, Void none) {
            refuse(6, tree, "synchronized");
            return super.visitSynchronized(tree, none);
        }

        @Override
        public Void visitAssert(AssertTree tree, Void none) {
            refuse(6, tree, "assert");
            return super.visitAssert(tree, none);
        }

        /** The document names no exception, so none is thrown or caught. */
        @Override
        public Void visitThrow(ThrowTree tree, Void none) {
            refuse(6, tree, "throw");
            return super.visitThrow(tree, none);
        }

        @Override
        public Void visitTry(TryTree tree, Void none) {
            refuse(6, tree, "try");
            return super.visitTry(tree, none);
        }

        /** All loops of this program count against a bound in their first line. */
        @Override
        public Void visitWhileLoop(WhileLoopTree tree, Void none) {
            refuse(9, tree, "while");
            return super.visitWhileLoop(tree, none);
        }
    }
}
