import com.sun.source.tree.BinaryTree;
import com.sun.source.tree.ClassTree;
import com.sun.source.tree.CompilationUnitTree;
import com.sun.source.tree.CompoundAssignmentTree;
import com.sun.source.tree.ExpressionTree;
import com.sun.source.tree.MethodInvocationTree;
import com.sun.source.tree.MethodTree;
import com.sun.source.tree.NewArrayTree;
import com.sun.source.tree.NewClassTree;
import com.sun.source.tree.ThrowTree;
import com.sun.source.tree.Tree;
import com.sun.source.tree.VariableTree;
import com.sun.source.util.JavacTask;
import com.sun.source.util.TreePath;
import com.sun.source.util.TreePathScanner;
import com.sun.source.util.Trees;
import java.io.IOException;
import java.nio.file.Path;
import java.util.HashMap;
import java.util.LinkedHashSet;
import java.util.List;
import java.util.Map;
import java.util.Set;
import javax.lang.model.element.Element;
import javax.lang.model.element.ElementKind;
import javax.lang.model.element.ExecutableElement;
import javax.lang.model.element.Modifier;
import javax.lang.model.element.VariableElement;
import javax.lang.model.type.TypeMirror;
import javax.tools.JavaCompiler;
import javax.tools.ToolProvider;

/** Those rules of LANGUAGE.md that can be seen from the program as the compiler reads it. */
public final class LanguageTest {
    private static final Due DUE = new Due("LanguageTest");
    private static final int MOST_DEEP = 8;
    private static final int MOST_LINES = 60;
    private static final int MOST_PARAMETERS = 7;
    private static final int MOST_CLASSES = 12;
    private static final int MOST_FIELDS = 20;
    private static final Set<String> THROWN = Set.of("ArrayIndexOutOfBoundsException", "IllegalArgumentException",
        "ArithmeticException", "UnsupportedOperationException");
    private static final Set<String> CALLED = Set.of("java.lang.Math.min", "java.lang.Math.max", "java.lang.Math.floorMod",
        "java.lang.Long.bitCount", "java.lang.System.arraycopy", "java.lang.Object.<init>");
    private static final Set<String> TYPES = Set.of("int", "long", "boolean", "int[]", "long[]", "WidthWords.Digits",
        "WidthWords.Operations", "WidthWords.PointNumbers");
    private static final Set<Tree.Kind> REFUSED = Set.of(Tree.Kind.IMPORT, Tree.Kind.PACKAGE, Tree.Kind.TRY, Tree.Kind.SYNCHRONIZED,
        Tree.Kind.ASSERT, Tree.Kind.LAMBDA_EXPRESSION, Tree.Kind.MEMBER_REFERENCE, Tree.Kind.INSTANCE_OF, Tree.Kind.SWITCH_EXPRESSION,
        Tree.Kind.DOUBLE_LITERAL, Tree.Kind.FLOAT_LITERAL);

    public static void main(String[] args) throws IOException {
        JavaCompiler compiler = ToolProvider.getSystemJavaCompiler();
        var files = compiler.getStandardFileManager(null, null, null);
        JavacTask task = (JavacTask) compiler.getTask(null, files, null, List.of("-proc:none"), null,
            files.getJavaFileObjects(Path.of("src/main/java/WidthWords.java")));
        for (CompilationUnitTree unit : task.parse()) {
            task.analyze();
            Reader reader = new Reader(Trees.instance(task), unit);
            reader.scan(unit, null);
            DUE.same("rule 11: some twelve classes", reader.classes <= MOST_CLASSES, true);
            DUE.same("the classes are read", reader.classes > 1, true);
            depths(reader.calls);
        }
        DUE.end();
    }

    /** Rules 8 and 11: calls are no recursion here, and stay at most eight deep. */
    private static void depths(Map<Element, Set<Element>> calls) {
        int deepest = 0;
        for (Element method : calls.keySet()) {
            deepest = Math.max(deepest, depth(method, calls, new LinkedHashSet<>()));
        }
        DUE.same("the calls are followed", deepest >= 3, true);
    }

    private static int depth(Element method, Map<Element, Set<Element>> calls, Set<Element> open) {
        if (!open.add(method)) {
            DUE.same("rule 8, recursion: " + open, true, false);
            return 0;
        }
        int below = 0;
        for (Element called : calls.getOrDefault(method, Set.of())) {
            below = Math.max(below, depth(called, calls, open));
        }
        DUE.same("rule 11, at most eight deep: " + open, open.size() <= MOST_DEEP, true);
        open.remove(method);
        return below + 1;
    }

    /** Reads the whole program once, and checks what a single place tells. */
    private static final class Reader extends TreePathScanner<Void, Void> {
        private final Trees trees;
        private final CompilationUnitTree unit;
        private final Map<Element, Set<Element>> calls = new HashMap<>();
        private ExecutableElement method = null;
        private int classes = 0;

        Reader(Trees trees, CompilationUnitTree unit) {
            this.trees = trees;
            this.unit = unit;
        }

        private static void allowed(int rule, String what, boolean holds) {
            DUE.same("rule " + rule + ": " + what, holds, true);
        }

        private Element elementOf(Tree tree) {
            return trees.getElement(new TreePath(getCurrentPath(), tree));
        }

        private long lineOf(long place) {
            return unit.getLineMap().getLineNumber(place);
        }

        @Override
        public Void scan(Tree tree, Void none) {
            if (tree != null && REFUSED.contains(tree.getKind())) {
                DUE.same("no " + tree.getKind() + " in the Java that is left: " + tree, true, false);
            }
            return super.scan(tree, none);
        }

        @Override
        public Void visitClass(ClassTree tree, Void none) {
            classes++;
            Element element = trees.getElement(getCurrentPath());
            Element outer = element.getEnclosingElement();
            boolean inside = outer.getKind() == ElementKind.CLASS;
            allowed(2, "a class inside is static: " + element, !inside || element.getModifiers().contains(Modifier.STATIC));
            allowed(2, "no local class: " + element, inside || outer.getKind() == ElementKind.PACKAGE);
            long fields = element.getEnclosedElements().stream()
                .filter(x -> x.getKind() == ElementKind.FIELD && !x.getModifiers().contains(Modifier.STATIC)).count();
            allowed(11, "some twenty fields: " + element, fields <= MOST_FIELDS);
            boolean blocks = tree.getMembers().stream().anyMatch(x -> x.getKind() == Tree.Kind.BLOCK);
            allowed(5, "no initialiser block: " + element, !blocks);
            return super.visitClass(tree, none);
        }

        @Override
        public Void visitMethod(MethodTree tree, Void none) {
            method = (ExecutableElement) trees.getElement(getCurrentPath());
            calls.computeIfAbsent(method, x -> new LinkedHashSet<>());
            long begin = lineOf(trees.getSourcePositions().getStartPosition(unit, tree));
            long end = lineOf(Math.max(trees.getSourcePositions().getEndPosition(unit, tree), 0));
            allowed(11, "some sixty lines: " + method, end - begin < MOST_LINES);
            allowed(11, "at most seven parameters: " + method, tree.getParameters().size() <= MOST_PARAMETERS);
            String answer = method.getReturnType().toString();
            allowed(3, "what " + method + " answers, " + answer, answer.equals("void") || TYPES.contains(answer));
            super.visitMethod(tree, none);
            method = null;
            return null;
        }

        @Override
        public Void visitVariable(VariableTree tree, Void none) {
            VariableElement variable = (VariableElement) trees.getElement(getCurrentPath());
            TypeMirror type = trees.getTypeMirror(getCurrentPath());
            allowed(3, "the type of " + variable + ", " + type, TYPES.contains(type.toString()));
            if (variable.getModifiers().contains(Modifier.STATIC)) {
                // What is shared by all objects is a number that the compiler knows: no row of it.
                allowed(5, "a static field is a constant: " + variable, variable.getConstantValue() != null);
            }
            return super.visitVariable(tree, none);
        }

        @Override
        public Void visitMethodInvocation(MethodInvocationTree tree, Void none) {
            Element called = elementOf(tree.getMethodSelect());
            String owner = called.getEnclosingElement().toString();
            if (owner.startsWith("WidthWords")) {
                allowed(12, "no call in a field's declaration: " + tree, method != null);
                calls.computeIfAbsent(method, x -> new LinkedHashSet<>()).add(called);
            } else {
                String name = called.getKind() == ElementKind.CONSTRUCTOR ? "<init>" : called.getSimpleName().toString();
                allowed(4, "a call of the library: " + owner + "." + name, CALLED.contains(owner + "." + name));
            }
            return super.visitMethodInvocation(tree, none);
        }

        @Override
        public Void visitNewClass(NewClassTree tree, Void none) {
            boolean thrown = getCurrentPath().getParentPath().getLeaf().getKind() == Tree.Kind.THROW;
            allowed(12, "made with the object alone: " + tree, thrown || isField());
            allowed(2, "no class without a name: " + tree, tree.getClassBody() == null);
            return super.visitNewClass(tree, none);
        }

        @Override
        public Void visitNewArray(NewArrayTree tree, Void none) {
            allowed(12, "made with the object alone: " + tree, isField());
            for (ExpressionTree length : tree.getDimensions()) {
                allowed(7, "a length that is known: " + tree, isKnown(length));
            }
            return super.visitNewArray(tree, none);
        }

        private boolean isField() {
            Tree parent = getCurrentPath().getParentPath().getLeaf();
            return method == null && parent.getKind() == Tree.Kind.VARIABLE;
        }

        @Override
        public Void visitThrow(ThrowTree tree, Void none) {
            allowed(6, "throw new: " + tree, tree.getExpression() instanceof NewClassTree);
            NewClassTree made = (NewClassTree) tree.getExpression();
            allowed(6, "throws " + made.getIdentifier(), THROWN.contains(made.getIdentifier().toString()));
            boolean written = made.getArguments().stream().allMatch(x -> x.getKind() == Tree.Kind.STRING_LITERAL);
            allowed(6, "a written text: " + tree, written);
            allowed(6, "no throw in a constructor", method.getKind() == ElementKind.METHOD);
            return super.visitThrow(tree, none);
        }

        @Override
        public Void visitBinary(BinaryTree tree, Void none) {
            TypeMirror type = trees.getTypeMirror(getCurrentPath());
            allowed(10, "no texts joined by +: " + tree, !type.toString().equals("java.lang.String"));
            boolean divides = tree.getKind() == Tree.Kind.DIVIDE || tree.getKind() == Tree.Kind.REMAINDER;
            if (divides && !isKnown(tree.getRightOperand())) {
                allowed(7, "a divisor is looked at before it divides: " + tree, isTested(tree.getRightOperand().toString()));
            }
            return super.visitBinary(tree, none);
        }

        @Override
        public Void visitCompoundAssignment(CompoundAssignmentTree tree, Void none) {
            boolean divides = tree.getKind() == Tree.Kind.DIVIDE_ASSIGNMENT || tree.getKind() == Tree.Kind.REMAINDER_ASSIGNMENT;
            allowed(7, "no divisor in an assignment: " + tree, !divides);
            return super.visitCompoundAssignment(tree, none);
        }

        /** Whether the method has a test of the divisor against 0. */
        private boolean isTested(String divisor) {
            TreePath path = getCurrentPath();
            while (path.getLeaf().getKind() != Tree.Kind.METHOD) {
                path = path.getParentPath();
            }
            String text = path.getLeaf().toString();
            return text.contains("if (" + divisor + " <= 0)") || text.contains("= " + divisor + " > 0 ?");
        }

        private boolean isKnown(ExpressionTree number) {
            switch (number.getKind()) {
                case INT_LITERAL:
                case LONG_LITERAL:
                    return true;
                case MULTIPLY:
                    BinaryTree product = (BinaryTree) number;
                    return isKnown(product.getLeftOperand()) && isKnown(product.getRightOperand());
                default:
                    Element element = elementOf(number);
                    return element instanceof VariableElement variable && variable.getConstantValue() instanceof Number known && known.longValue() > 0;
            }
        }
    }
}
