import com.sun.source.tree.AnnotationTree;
import com.sun.source.tree.AssertTree;
import com.sun.source.tree.BinaryTree;
import com.sun.source.tree.BlockTree;
import com.sun.source.tree.ClassTree;
import com.sun.source.tree.CompilationUnitTree;
import com.sun.source.tree.CompoundAssignmentTree;
import com.sun.source.tree.DoWhileLoopTree;
import com.sun.source.tree.ExpressionTree;
import com.sun.source.tree.ForLoopTree;
import com.sun.source.tree.ImportTree;
import com.sun.source.tree.InstanceOfTree;
import com.sun.source.tree.LambdaExpressionTree;
import com.sun.source.tree.LiteralTree;
import com.sun.source.tree.MemberReferenceTree;
import com.sun.source.tree.MethodInvocationTree;
import com.sun.source.tree.MethodTree;
import com.sun.source.tree.NewArrayTree;
import com.sun.source.tree.NewClassTree;
import com.sun.source.tree.PackageTree;
import com.sun.source.tree.SwitchExpressionTree;
import com.sun.source.tree.SynchronizedTree;
import com.sun.source.tree.ThrowTree;
import com.sun.source.tree.Tree;
import com.sun.source.tree.TryTree;
import com.sun.source.tree.TypeCastTree;
import com.sun.source.tree.VariableTree;
import com.sun.source.tree.WhileLoopTree;
import com.sun.source.util.JavacTask;
import com.sun.source.util.TreePath;
import com.sun.source.util.TreePathScanner;
import com.sun.source.util.Trees;
import java.io.IOException;
import java.nio.file.Files;
import java.nio.file.Path;
import java.util.ArrayList;
import java.util.HashMap;
import java.util.HashSet;
import java.util.List;
import java.util.Map;
import java.util.Set;
import java.util.TreeSet;
import javax.lang.model.element.Element;
import javax.lang.model.element.ElementKind;
import javax.lang.model.element.Modifier;
import javax.lang.model.type.ArrayType;
import javax.lang.model.type.TypeKind;
import javax.lang.model.type.TypeMirror;
import javax.tools.JavaCompiler;
import javax.tools.StandardJavaFileManager;
import javax.tools.ToolProvider;

/**
 * The rules of ../shared/LANGUAGE.md that can be seen in the source, asked of the compiler's own trees.
 * The class needs less than the rules leave, so what it does not use is refused, too.
 */
public final class LanguageTest extends TreePathScanner<Void, Void> {
    private static final Path SOURCE = Path.of("src/main/java/RainbowHulls.java");
    private static final int MOST_PARAMETERS = 7;
    private static final int MOST_LINES = 60;
    private static final int MOST_CLASSES = 12;
    private static final int MOST_FIELDS = 20;
    private static final int MOST_DEEP = 8;
    private static final Set<String> LIBRARY = Set.of("java.lang.Math.min", "java.lang.Math.max", "java.lang.Math.abs",
        "java.lang.Integer.bitCount", "java.lang.String.length", "java.lang.String.charAt", "java.lang.Object.<init>");
    private static final Set<TypeKind> NUMBERS = Set.of(TypeKind.INT, TypeKind.LONG, TypeKind.SHORT, TypeKind.BYTE,
        TypeKind.CHAR, TypeKind.BOOLEAN);

    private final Trees trees;
    private final CompilationUnitTree unit;
    private final Map<Element, Set<Element>> calls = new HashMap<>();
    private int classes;
    private static int wrong;

    private LanguageTest(Trees trees, CompilationUnitTree unit) {
        this.trees = trees;
        this.unit = unit;
    }

    private void check(boolean fine, int rule, String what, Tree tree) {
        if (!fine) {
            wrong++;
            System.out.println("rule " + rule + ", line " + lineOf(tree, false) + ": " + what);
        }
    }

    private long lineOf(Tree tree, boolean last) {
        long place = last ? trees.getSourcePositions().getEndPosition(unit, tree)
            : trees.getSourcePositions().getStartPosition(unit, tree);
        return unit.getLineMap().getLineNumber(place);
    }

    private <T extends Tree> T around(Class<T> kind) {
        for (TreePath path = getCurrentPath(); path != null; path = path.getParentPath()) {
            if (kind.isInstance(path.getLeaf())) {
                return kind.cast(path.getLeaf());
            }
        }
        return null;
    }

    private static boolean isOwn(Element element) {
        return ("" + element).startsWith("RainbowHulls");
    }

    // ---- what there must not be ----

    private Void never(int rule, Tree tree) {
        check(false, rule, "no " + tree.getKind(), tree);
        return null;
    }

    @Override
    public Void visitPackage(PackageTree tree, Void nothing) {
        return never(1, tree);
    }

    @Override
    public Void visitImport(ImportTree tree, Void nothing) {
        return never(4, tree);
    }

    @Override
    public Void visitAnnotation(AnnotationTree tree, Void nothing) {
        return never(4, tree);
    }

    @Override
    public Void visitLambdaExpression(LambdaExpressionTree tree, Void nothing) {
        return never(2, tree);
    }

    @Override
    public Void visitMemberReference(MemberReferenceTree tree, Void nothing) {
        return never(2, tree);
    }

    @Override
    public Void visitThrow(ThrowTree tree, Void nothing) {
        return never(6, tree);
    }

    @Override
    public Void visitTry(TryTree tree, Void nothing) {
        return never(6, tree);
    }

    @Override
    public Void visitSynchronized(SynchronizedTree tree, Void nothing) {
        return never(6, tree);
    }

    @Override
    public Void visitAssert(AssertTree tree, Void nothing) {
        return never(6, tree);
    }

    @Override
    public Void visitInstanceOf(InstanceOfTree tree, Void nothing) {
        return never(6, tree);
    }

    @Override
    public Void visitSwitchExpression(SwitchExpressionTree tree, Void nothing) {
        return never(10, tree);
    }

    // ---- classes, fields, types ----

    @Override
    public Void visitClass(ClassTree tree, Void nothing) {
        classes++;
        check(classes <= MOST_CLASSES, 11, "twelve classes", tree);
        Set<Modifier> told = tree.getModifiers().getFlags();
        boolean inside = getCurrentPath().getParentPath().getLeaf() instanceof ClassTree;
        if (inside) {
            check(told.contains(Modifier.STATIC) && !told.contains(Modifier.PUBLIC), 2, "static, not public", tree);
        } else {
            check(told.equals(Set.of(Modifier.PUBLIC, Modifier.FINAL)), 1, "one class, public and final", tree);
        }
        check(tree.getTypeParameters().isEmpty() && tree.getImplementsClause().isEmpty()
            && tree.getExtendsClause() == null, 2, "a class alone", tree);
        int fields = 0;
        for (Tree member : tree.getMembers()) {
            check(!(member instanceof BlockTree), 5, "no block that a class begins with", member);
            if (member instanceof VariableTree v && !v.getModifiers().getFlags().contains(Modifier.STATIC)) {
                fields++;
            }
        }
        check(fields <= MOST_FIELDS, 11, "twenty fields", tree);
        return super.visitClass(tree, nothing);
    }

    @Override
    public Void visitVariable(VariableTree tree, Void nothing) {
        Element element = trees.getElement(getCurrentPath());
        check(isKnown(element.asType()), 3, "a type: " + element.asType(), tree);
        Set<Modifier> told = tree.getModifiers().getFlags();
        if (told.contains(Modifier.STATIC)) {
            check(told.contains(Modifier.FINAL) && NUMBERS.contains(element.asType().getKind())
                && tree.getInitializer() != null, 5, "a static field is a constant: " + element, tree);
        }
        check(!told.contains(Modifier.VOLATILE) && !told.contains(Modifier.TRANSIENT), 3, "a plain field", tree);
        return super.visitVariable(tree, nothing);
    }

    private static boolean isKnown(TypeMirror type) {
        if (type instanceof ArrayType row) {
            return NUMBERS.contains(row.getComponentType().getKind());
        }
        return NUMBERS.contains(type.getKind()) || ("" + type).equals("java.lang.String")
            || ("" + type).startsWith("RainbowHulls.");
    }

    @Override
    public Void visitTypeCast(TypeCastTree tree, Void nothing) {
        check(trees.getTypeMirror(getCurrentPath()).getKind().isPrimitive(), 6, "casts are of numbers", tree);
        return super.visitTypeCast(tree, nothing);
    }

    // ---- methods, and what they call ----

    @Override
    public Void visitMethod(MethodTree tree, Void nothing) {
        calls.computeIfAbsent(trees.getElement(getCurrentPath()), e -> new HashSet<>());
        Set<Modifier> told = tree.getModifiers().getFlags();
        check(tree.getParameters().size() <= MOST_PARAMETERS, 11, "seven parameters", tree);
        check(lineOf(tree, true) - lineOf(tree, false) < MOST_LINES, 11, "sixty lines: " + tree.getName(), tree);
        check(tree.getThrows().isEmpty() && tree.getTypeParameters().isEmpty(), 6, "a plain method", tree);
        check(!told.contains(Modifier.NATIVE) && !told.contains(Modifier.SYNCHRONIZED)
            && !told.contains(Modifier.PROTECTED), 1, "a plain method", tree);
        return super.visitMethod(tree, nothing);
    }

    private void calls(Element called, Tree tree) {
        check(isOwn(called.getEnclosingElement()) || LIBRARY.contains(called.getEnclosingElement() + "." + called.getSimpleName()),
            4, "the library: " + called, tree);
        MethodTree from = around(MethodTree.class);
        if (from != null) {
            Element caller = trees.getElement(TreePath.getPath(unit, from));
            calls.computeIfAbsent(caller, e -> new HashSet<>()).add(called);
        }
    }

    @Override
    public Void visitMethodInvocation(MethodInvocationTree tree, Void nothing) {
        calls(trees.getElement(getCurrentPath()), tree);
        return super.visitMethodInvocation(tree, nothing);
    }

    /** Rows and parts are made with the object: in a constructor, or where a field is told. */
    private void checkMade(Tree tree) {
        MethodTree in = around(MethodTree.class);
        check(in == null || in.getName().contentEquals("<init>"), 12, "made with the object alone", tree);
        check(around(ForLoopTree.class) == null && around(WhileLoopTree.class) == null, 12, "not made in a loop", tree);
    }

    @Override
    public Void visitNewClass(NewClassTree tree, Void nothing) {
        check(tree.getClassBody() == null, 2, "no class without a name", tree);
        calls(trees.getElement(getCurrentPath()), tree);
        checkMade(tree);
        return super.visitNewClass(tree, nothing);
    }

    @Override
    public Void visitNewArray(NewArrayTree tree, Void nothing) {
        check(tree.getDimensions().size() == 1 && tree.getInitializers() == null, 3, "a row of one dimension", tree);
        checkMade(tree);
        return super.visitNewArray(tree, nothing);
    }

    /** The longest way of calls from here, the library's included. */
    private int deep(Element method, List<Element> open) {
        if (open.contains(method)) {
            wrong++;
            System.out.println("rule 8: " + method + " comes back to itself");
            return 0;
        }
        int most = 0;
        List<Element> now = new ArrayList<>(open);
        now.add(method);
        for (Element called : calls.getOrDefault(method, Set.of())) {
            most = Math.max(most, deep(called, now));
        }
        return most + 1;
    }

    private int deepest() {
        int most = 0;
        for (Element method : calls.keySet()) {
            int deep = deep(method, List.of());
            if (deep > MOST_DEEP) {
                wrong++;
                System.out.println("rule 11: " + method + " goes " + deep + " deep");
            }
            most = Math.max(most, deep);
        }
        return most;
    }

    /** A method that nothing calls is left over. */
    private void checkAllCalled() {
        Set<Element> called = new HashSet<>();
        calls.values().forEach(called::addAll);
        for (Element method : calls.keySet()) {
            boolean open = method.getModifiers().contains(Modifier.PUBLIC) || method.getKind() == ElementKind.CONSTRUCTOR;
            if (!open && !called.contains(method)) {
                wrong++;
                System.out.println("nothing calls " + method);
            }
        }
    }

    // ---- loops, divisors, texts ----

    private void checkEnd(Tree tree, ExpressionTree condition) {
        boolean bounded = condition != null && ("" + condition).matches(".*[<>].*");
        check(bounded, 9, "an end that is seen: " + condition, tree);
    }

    @Override
    public Void visitForLoop(ForLoopTree tree, Void nothing) {
        checkEnd(tree, tree.getCondition());
        check(tree.getUpdate().size() == 1, 9, "a counter", tree);
        return super.visitForLoop(tree, nothing);
    }

    @Override
    public Void visitWhileLoop(WhileLoopTree tree, Void nothing) {
        checkEnd(tree, tree.getCondition());
        return super.visitWhileLoop(tree, nothing);
    }

    @Override
    public Void visitDoWhileLoop(DoWhileLoopTree tree, Void nothing) {
        checkEnd(tree, tree.getCondition());
        return super.visitDoWhileLoop(tree, nothing);
    }

    /** A divisor is a number that is told, or a name that its method compares with 0. */
    private void checkDivisor(ExpressionTree divisor, Tree tree) {
        if (divisor instanceof LiteralTree told) {
            check(!told.getValue().equals(0) && !told.getValue().equals(0L), 7, "by 0", tree);
            return;
        }
        Set<String> compared = new TreeSet<>();
        TreePathScanner<Void, Void> comparisons = new TreePathScanner<>() {
            @Override
            public Void visitBinary(BinaryTree b, Void nothing) {
                if ((b.getKind() == Tree.Kind.EQUAL_TO || b.getKind() == Tree.Kind.NOT_EQUAL_TO)
                    && ("" + b.getRightOperand()).equals("0")) {
                    compared.add("" + b.getLeftOperand());
                }
                return super.visitBinary(b, nothing);
            }
        };
        comparisons.scan(TreePath.getPath(unit, around(MethodTree.class)), null);
        check(compared.contains("" + divisor), 7, "a divisor that is not looked at: " + divisor, tree);
    }

    @Override
    public Void visitBinary(BinaryTree tree, Void nothing) {
        if (tree.getKind() == Tree.Kind.DIVIDE || tree.getKind() == Tree.Kind.REMAINDER) {
            checkDivisor(tree.getRightOperand(), tree);
        }
        check(trees.getTypeMirror(getCurrentPath()).getKind().isPrimitive(), 10, "texts are not joined by +", tree);
        return super.visitBinary(tree, nothing);
    }

    @Override
    public Void visitCompoundAssignment(CompoundAssignmentTree tree, Void nothing) {
        if (tree.getKind() == Tree.Kind.DIVIDE_ASSIGNMENT || tree.getKind() == Tree.Kind.REMAINDER_ASSIGNMENT) {
            checkDivisor(tree.getExpression(), tree);
        }
        return super.visitCompoundAssignment(tree, nothing);
    }

    private static void checkSigns() throws IOException {
        String source = Files.readString(SOURCE);
        for (int i = 0; i < source.length(); i++) {
            if (source.charAt(i) > 127) {
                wrong++;
                System.out.println("rule 4: a sign above 127 at " + i);
            }
        }
    }

    public static void main(String[] args) throws Exception {
        JavaCompiler compiler = ToolProvider.getSystemJavaCompiler();
        StandardJavaFileManager files = compiler.getStandardFileManager(null, null, null);
        JavacTask task = (JavacTask) compiler.getTask(null, files, null, List.of("-proc:none"), null,
            files.getJavaFileObjects(SOURCE));
        CompilationUnitTree unit = task.parse().iterator().next();
        task.analyze();
        LanguageTest test = new LanguageTest(Trees.instance(task), unit);
        test.scan(unit, null);
        int deep = test.deepest();
        test.checkAllCalled();
        checkSigns();
        System.out.println(test.classes + " classes, " + test.calls.size() + " methods, calls " + deep + " deep: "
            + (wrong == 0 ? "all rules are kept" : wrong + " rules are not kept"));
        if (wrong != 0) {
            System.exit(1);
        }
    }
}
