import com.sun.source.tree.BinaryTree;
import com.sun.source.tree.CompilationUnitTree;
import com.sun.source.tree.CompoundAssignmentTree;
import com.sun.source.tree.ExpressionTree;
import com.sun.source.tree.LiteralTree;
import com.sun.source.tree.MethodInvocationTree;
import com.sun.source.tree.MethodTree;
import com.sun.source.tree.NewArrayTree;
import com.sun.source.tree.NewClassTree;
import com.sun.source.tree.Tree;
import com.sun.source.util.JavacTask;
import com.sun.source.util.TreePath;
import com.sun.source.util.TreePathScanner;
import com.sun.source.util.Trees;
import java.io.IOException;
import java.nio.file.Path;
import java.util.HashMap;
import java.util.HashSet;
import java.util.List;
import java.util.Map;
import java.util.Set;
import java.util.TreeSet;
import javax.lang.model.element.Element;
import javax.lang.model.element.ElementKind;
import javax.lang.model.element.ExecutableElement;
import javax.lang.model.element.Modifier;
import javax.lang.model.element.TypeElement;
import javax.lang.model.element.VariableElement;
import javax.tools.JavaCompiler;
import javax.tools.StandardJavaFileManager;
import javax.tools.ToolProvider;

/**
 * The rules of LANGUAGE.md on what calls what, looked for in the tree that javac makes of the class: how deep calls go,
 * which of them call themselves, what of the library is used, where objects are made, and by what is divided.
 */
public final class CallsTest {
    private static final int DEEPEST = 8;
    /** What the class uses of rule 4; another one wants a look at the rule first. */
    private static final Set<String> LIBRARY = Set.of("java.lang.Math.min", "java.lang.Math.abs", "java.lang.Integer.bitCount",
        "java.lang.System.arraycopy", "java.util.Arrays.fill", "java.lang.String.length", "java.lang.String.charAt");
    /** Its depth is carried as an argument: the turns that are left. */
    private static final Set<String> CALL_THEMSELVES = Set.of("RingShepherds.Course.aheadBy");
    /** Each of these looks at its divisor itself; a new one wants a look by hand first. */
    private static final Set<String> LOOK_AT_THEIR_DIVISOR =
        Set.of("RingShepherds.fee", "RingShepherds.greatestDivisor", "RingShepherds.Ring.around");

    private static final Checks c = new Checks();

    private final Map<ExecutableElement, Set<ExecutableElement>> calls = new HashMap<>();
    private final Set<String> callThemselves = new TreeSet<>();
    private final Set<String> divideByWhatVaries = new TreeSet<>();
    private final Set<ExecutableElement> open = new HashSet<>();
    private JavacTask task;
    private Trees trees;

    public static void main(String[] args) throws IOException {
        new CallsTest().look();
        c.end();
    }

    private void look() throws IOException {
        Path file = Path.of(System.getProperty("project.root", "."), "src/main/java/RingShepherds.java");
        JavaCompiler compiler = ToolProvider.getSystemJavaCompiler();
        try (StandardJavaFileManager files = compiler.getStandardFileManager(null, null, null)) {
            task = (JavacTask) compiler.getTask(null, files, null, List.of("--release", "17"), null, files.getJavaFileObjects(file));
            trees = Trees.instance(task);
            Iterable<? extends CompilationUnitTree> units = task.parse();
            task.analyze();
            for (CompilationUnitTree unit : units) new Scanner().scan(unit, null);
        }
        addWhatOverrides();
        c.holds("methods were found", calls.size() > 60);
        c.holds("calls itself: " + callThemselves, callThemselves.equals(CALL_THEMSELVES));
        c.holds("divides by what varies: " + divideByWhatVaries, LOOK_AT_THEIR_DIVISOR.equals(divideByWhatVaries));
        int deepest = 0;
        for (ExecutableElement method : calls.keySet()) {
            if (!method.getModifiers().contains(Modifier.PUBLIC)) continue;
            int depth = depth(method);
            deepest = Math.max(deepest, depth);
            c.holds(name(method) + " goes " + depth + " deep", depth <= DEEPEST);
        }
        c.holds("some go deeper than 3, or nothing was followed", deepest > 3);
    }

    private static String name(ExecutableElement method) {
        return method.getEnclosingElement() + "." + method.getSimpleName();
    }

    private static boolean isOwn(Element element) {
        return element.toString().equals("RingShepherds")
            || element.getEnclosingElement() != null && isOwn(element.getEnclosingElement());
    }

    /** A call of a method may come to any that overrides it. */
    private void addWhatOverrides() {
        for (ExecutableElement under : calls.keySet()) {
            for (ExecutableElement over : calls.keySet()) {
                TypeElement type = (TypeElement) under.getEnclosingElement();
                if (under != over && task.getElements().overrides(under, over, type)) calls.get(over).addAll(calls.get(under));
            }
        }
    }

    /** How many calls stand open at once below this one, with it; a call of itself is no deeper one. */
    private int depth(ExecutableElement method) {
        if (!open.add(method)) {
            c.holds(name(method) + " comes back to itself by others", false);
            return 0;
        }
        int deepest = 0;
        for (ExecutableElement next : calls.getOrDefault(method, Set.of())) {
            if (next != method) deepest = Math.max(deepest, depth(next));
        }
        open.remove(method);
        return 1 + deepest;
    }

    private final class Scanner extends TreePathScanner<Void, Void> {
        private ExecutableElement now;

        @Override
        public Void visitMethod(MethodTree tree, Void none) {
            now = (ExecutableElement) trees.getElement(getCurrentPath());
            calls.put(now, new HashSet<>());
            super.visitMethod(tree, none);
            now = null;
            return null;
        }

        @Override
        public Void visitMethodInvocation(MethodInvocationTree tree, Void none) {
            ExecutableElement called = (ExecutableElement) trees.getElement(getCurrentPath());
            if (isOwn(called)) {
                calls.get(now).add(called);
                if (called == now) callThemselves.add(name(now));
            } else if (called.getKind() == ElementKind.METHOD) {
                c.holds(name(called) + " is known to be of rule 4", LIBRARY.contains(name(called)));
            }
            return super.visitMethodInvocation(tree, none);
        }

        @Override
        public Void visitNewClass(NewClassTree tree, Void none) {
            ExecutableElement called = (ExecutableElement) trees.getElement(getCurrentPath());
            c.holds(called + " is of our own", isOwn(called));
            c.holds(called + " is made by a constructor", now != null && now.getKind() == ElementKind.CONSTRUCTOR);
            calls.get(now).add(called);
            return super.visitNewClass(tree, none);
        }

        @Override
        public Void visitNewArray(NewArrayTree tree, Void none) {
            c.holds(tree + " is made by a constructor", now == null || now.getKind() == ElementKind.CONSTRUCTOR);
            return super.visitNewArray(tree, none);
        }

        @Override
        public Void visitBinary(BinaryTree tree, Void none) {
            if (tree.getKind() == Tree.Kind.DIVIDE || tree.getKind() == Tree.Kind.REMAINDER) {
                if (!isFixed(tree.getRightOperand())) divideByWhatVaries.add(name(now));
            }
            return super.visitBinary(tree, none);
        }

        @Override
        public Void visitCompoundAssignment(CompoundAssignmentTree tree, Void none) {
            if (tree.getKind() == Tree.Kind.DIVIDE_ASSIGNMENT || tree.getKind() == Tree.Kind.REMAINDER_ASSIGNMENT) {
                if (!isFixed(tree.getExpression())) divideByWhatVaries.add(name(now));
            }
            return super.visitCompoundAssignment(tree, none);
        }

        /** A number other than 0, written out or by the name of a constant. */
        private boolean isFixed(ExpressionTree divisor) {
            Object value = null;
            if (divisor instanceof LiteralTree literal) value = literal.getValue();
            Element element = trees.getElement(new TreePath(getCurrentPath(), divisor));
            if (element instanceof VariableElement variable) value = variable.getConstantValue();
            return value instanceof Number number && number.longValue() != 0;
        }
    }
}
