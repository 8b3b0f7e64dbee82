import com.sun.source.tree.BinaryTree;
import com.sun.source.tree.CatchTree;
import com.sun.source.tree.ClassTree;
import com.sun.source.tree.CompilationUnitTree;
import com.sun.source.tree.DoWhileLoopTree;
import com.sun.source.tree.ForLoopTree;
import com.sun.source.tree.IdentifierTree;
import com.sun.source.tree.MethodInvocationTree;
import com.sun.source.tree.MethodTree;
import com.sun.source.tree.NewClassTree;
import com.sun.source.tree.ThrowTree;
import com.sun.source.tree.Tree;
import com.sun.source.tree.TryTree;
import com.sun.source.tree.TypeCastTree;
import com.sun.source.tree.VariableTree;
import com.sun.source.tree.WhileLoopTree;
import com.sun.source.util.JavacTask;
import com.sun.source.util.TreePath;
import com.sun.source.util.TreePathScanner;
import com.sun.source.util.Trees;
import java.io.IOException;
import java.nio.file.Path;
import java.util.ArrayList;
import java.util.HashMap;
import java.util.HashSet;
import java.util.LinkedHashMap;
import java.util.List;
import java.util.Map;
import java.util.Set;
import javax.lang.model.element.Element;
import javax.lang.model.element.ElementKind;
import javax.lang.model.element.ExecutableElement;
import javax.lang.model.element.Modifier;
import javax.lang.model.element.TypeElement;
import javax.lang.model.type.TypeKind;
import javax.lang.model.type.TypeMirror;
import javax.lang.model.util.Elements;
import javax.tools.JavaCompiler;
import javax.tools.StandardJavaFileManager;
import javax.tools.ToolProvider;

/**
 * The rules of LANGUAGE.md that tell of calls, types and exceptions, looked at in the program as the
 * compiler reads it: which methods call which, how deep, and what of the library is used.
 */
public final class CallsTest {
    private static final int DEEPEST = 8;
    /** What rule 4 lists, as far as the class has a use for it. */
    private static final Set<String> LIBRARY = Set.of("java.lang.Object.<init>", "java.lang.Math.min",
        "java.lang.Math.max", "java.lang.Math.abs", "java.lang.System.arraycopy",
        "java.util.Arrays.fill", "java.util.Arrays.copyOf", "java.util.Arrays.copyOfRange");
    private static final Set<String> EXCEPTIONS = Set.of("java.lang.IllegalStateException",
        "java.lang.IllegalArgumentException", "java.lang.IndexOutOfBoundsException",
        "java.lang.ArithmeticException", "java.lang.UnsupportedOperationException",
        "java.util.NoSuchElementException", "java.lang.RuntimeException");
    private static int wrong = 0;

    private final Trees trees;
    private final Elements elements;
    private final Map<ExecutableElement, Set<ExecutableElement>> calls = new LinkedHashMap<>();
    /** What fields are made with is called by each constructor of their class. */
    private final Map<Element, Set<ExecutableElement>> initial = new HashMap<>();
    private final Map<ExecutableElement, Integer> depths = new HashMap<>();
    private final List<ExecutableElement> open = new ArrayList<>();

    private CallsTest(JavacTask task) {
        trees = Trees.instance(task);
        elements = task.getElements();
    }

    public static void main(String[] args) throws IOException {
        JavaCompiler compiler = ToolProvider.getSystemJavaCompiler();
        try (StandardJavaFileManager files = compiler.getStandardFileManager(null, null, null)) {
            JavacTask task = (JavacTask) compiler.getTask(null, files, null, List.of("-proc:none"),
                null, files.getJavaFileObjects(Path.of("src/main/java/TimedYard.java")));
            Iterable<? extends CompilationUnitTree> units = task.parse();
            task.analyze();
            CallsTest test = new CallsTest(task);
            for (CompilationUnitTree unit : units) {
                test.new Reader().scan(unit, null);
            }
            test.depths();
        }
        System.out.println(wrong == 0 ? "calls are as the rules say" : wrong + " rules are broken");
        if (wrong != 0) {
            System.exit(1);
        }
    }

    private static void check(boolean holds, int rule, String what) {
        if (!holds) {
            wrong++;
            System.out.println("rule " + rule + ": " + what);
        }
    }

    private static String name(Element element) {
        return element.getEnclosingElement() + "." + element.getSimpleName();
    }

    private static boolean isOwn(Element element) {
        Element at = element;
        while (at.getEnclosingElement().getKind() != ElementKind.PACKAGE) {
            at = at.getEnclosingElement();
        }
        return at.getSimpleName().contentEquals("TimedYard");
    }

    private boolean isOverriddenBy(ExecutableElement called, ExecutableElement other) {
        return elements.overrides(other, called, (TypeElement) other.getEnclosingElement());
    }

    /** Rules 8 and 11, for each call of the face; a call of an abstract method may be any of its own. */
    private void depths() {
        int deepest = 0;
        for (ExecutableElement method : calls.keySet()) {
            if (method.getKind() == ElementKind.CONSTRUCTOR) {
                Element owner = method.getEnclosingElement();
                calls.get(method).addAll(initial.getOrDefault(owner, Set.of()));
            }
        }
        for (ExecutableElement method : calls.keySet()) {
            if (method.getModifiers().contains(Modifier.PUBLIC)) {
                int depth = depth(method);
                deepest = Math.max(deepest, depth);
                check(depth <= DEEPEST, 11, name(method) + " goes " + depth + " calls deep");
            }
        }
        check(deepest > 3 && calls.size() > 60, 11, "the test has not read the calls");
    }

    private int depth(ExecutableElement method) {
        if (open.contains(method)) {
            check(false, 8, name(method) + " calls itself, by " + open);
            return 0;
        }
        if (depths.containsKey(method)) {
            return depths.get(method);
        }
        open.add(method);
        int deepest = 0;
        Set<ExecutableElement> called = calls.getOrDefault(method, Set.of());
        for (ExecutableElement next : called) {
            deepest = Math.max(deepest, depth(next));
        }
        for (ExecutableElement other : calls.keySet()) {
            if (other != method && isOverriddenBy(method, other)) {
                deepest = Math.max(deepest, depth(other) - 1);
            }
        }
        open.remove(method);
        depths.put(method, deepest + 1);
        return deepest + 1;
    }

    private final class Reader extends TreePathScanner<Void, Void> {
        private ExecutableElement inside;
        private boolean holdsTry;
        private boolean holdsThrow;

        private TypeMirror typeOf(Tree tree) {
            return trees.getTypeMirror(new TreePath(getCurrentPath(), tree));
        }

        @Override
        public Void visitMethod(MethodTree tree, Void none) {
            ExecutableElement before = inside;
            inside = (ExecutableElement) trees.getElement(getCurrentPath());
            holdsTry = false;
            holdsThrow = false;
            calls.put(inside, new HashSet<>());
            super.visitMethod(tree, none);
            check(!(holdsTry && holdsThrow), 6, name(inside) + " throws and catches");
            check(!holdsThrow || inside.getKind() != ElementKind.CONSTRUCTOR, 6,
                name(inside) + " throws");
            inside = before;
            return null;
        }

        private void called(Element element) {
            if (!(element instanceof ExecutableElement method)) {
                check(false, 4, "a call that can't be read: " + getCurrentPath().getLeaf());
                return;
            }
            if (inside != null) {
                calls.get(inside).add(method);
            } else {
                Element owner = trees.getElement(classPath());
                initial.computeIfAbsent(owner, o -> new HashSet<>()).add(method);
            }
            boolean known = isOwn(method) || LIBRARY.contains(name(method))
                || EXCEPTIONS.contains(method.getEnclosingElement().toString());
            check(known, 4, name(method) + " is called");
        }

        private TreePath classPath() {
            TreePath at = getCurrentPath();
            while (!(at.getLeaf() instanceof ClassTree)) {
                at = at.getParentPath();
            }
            return at;
        }

        @Override
        public Void visitMethodInvocation(MethodInvocationTree tree, Void none) {
            called(trees.getElement(getCurrentPath()));
            return super.visitMethodInvocation(tree, none);
        }

        @Override
        public Void visitNewClass(NewClassTree tree, Void none) {
            called(trees.getElement(getCurrentPath()));
            check(tree.getClassBody() == null, 2, "a class without a name");
            boolean isThrown = getCurrentPath().getParentPath().getLeaf() instanceof ThrowTree;
            String made = typeOf(tree.getIdentifier()).toString();
            check(EXCEPTIONS.contains(made) == isThrown, 6, "new " + made);
            return super.visitNewClass(tree, none);
        }

        @Override
        public Void visitThrow(ThrowTree tree, Void none) {
            holdsThrow = true;
            check(tree.getExpression() instanceof NewClassTree, 6, tree.toString());
            return super.visitThrow(tree, none);
        }

        @Override
        public Void visitTry(TryTree tree, Void none) {
            holdsTry = true;
            check(tree.getResources().isEmpty() && tree.getFinallyBlock() == null
                && !tree.getCatches().isEmpty(), 6, tree.toString());
            return super.visitTry(tree, none);
        }

        @Override
        public Void visitCatch(CatchTree tree, Void none) {
            String caught = tree.getParameter().getName().toString();
            new TreePathScanner<Void, Void>() {
                @Override
                public Void visitIdentifier(IdentifierTree used, Void nothing) {
                    check(!used.getName().contentEquals(caught), 6, caught + " is not left alone");
                    return null;
                }
            }.scan(new TreePath(getCurrentPath(), tree.getBlock()), null);
            return super.visitCatch(tree, none);
        }

        @Override
        public Void visitVariable(VariableTree tree, Void none) {
            TypeMirror type = trees.getTypeMirror(getCurrentPath());
            boolean caught = getCurrentPath().getParentPath().getLeaf() instanceof CatchTree;
            check(caught ? EXCEPTIONS.contains(type.toString()) : isAllowed(type), 3, tree.toString());
            return super.visitVariable(tree, none);
        }

        /** Whole numbers, booleans, own classes, Strings, and rows of one dimension of these. */
        private boolean isAllowed(TypeMirror type) {
            String text = type.toString();
            String one = text.endsWith("[]") ? text.substring(0, text.length() - 2) : text;
            return one.startsWith("TimedYard.") && !one.endsWith("[]")
                || Set.of("int", "long", "short", "byte", "char", "boolean").contains(one)
                || text.equals("java.lang.String");
        }

        @Override
        public Void visitBinary(BinaryTree tree, Void none) {
            for (Tree side : List.of(tree.getLeftOperand(), tree.getRightOperand())) {
                TypeMirror type = typeOf(side);
                boolean known = type.getKind().isPrimitive() || type.getKind() == TypeKind.NULL
                    || type.toString().startsWith("TimedYard.");
                check(known, 10, tree + " has a side of " + type);
            }
            boolean divides = tree.getKind() == Tree.Kind.DIVIDE || tree.getKind() == Tree.Kind.REMAINDER;
            check(!divides || tree.getRightOperand().toString().equals("CLOCKS"), 7,
                "a divisor that is no constant: " + tree);
            return super.visitBinary(tree, none);
        }

        @Override
        public Void visitTypeCast(TypeCastTree tree, Void none) {
            check(typeOf(tree.getType()).getKind().isPrimitive(), 6, "a cast of objects: " + tree);
            return super.visitTypeCast(tree, none);
        }

        @Override
        public Void visitForLoop(ForLoopTree tree, Void none) {
            check(tree.getCondition() != null && tree.getUpdate().size() == 1, 9, tree.toString());
            return super.visitForLoop(tree, none);
        }

        @Override
        public Void visitWhileLoop(WhileLoopTree tree, Void none) {
            check(false, 9, "a loop without a counter: " + tree);
            return super.visitWhileLoop(tree, none);
        }

        @Override
        public Void visitDoWhileLoop(DoWhileLoopTree tree, Void none) {
            check(false, 9, "a loop without a counter: " + tree);
            return super.visitDoWhileLoop(tree, none);
        }
    }
}
