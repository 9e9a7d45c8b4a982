import com.sun.source.tree.AssertTree;
import com.sun.source.tree.BinaryTree;
import com.sun.source.tree.BlockTree;
import com.sun.source.tree.ClassTree;
import com.sun.source.tree.CompilationUnitTree;
import com.sun.source.tree.CompoundAssignmentTree;
import com.sun.source.tree.DoWhileLoopTree;
import com.sun.source.tree.ExpressionTree;
import com.sun.source.tree.ForLoopTree;
import com.sun.source.tree.LambdaExpressionTree;
import com.sun.source.tree.LiteralTree;
import com.sun.source.tree.MemberReferenceTree;
import com.sun.source.tree.MethodInvocationTree;
import com.sun.source.tree.MethodTree;
import com.sun.source.tree.NewArrayTree;
import com.sun.source.tree.NewClassTree;
import com.sun.source.tree.SynchronizedTree;
import com.sun.source.tree.ThrowTree;
import com.sun.source.tree.Tree;
import com.sun.source.tree.TryTree;
import com.sun.source.tree.VariableTree;
import com.sun.source.tree.WhileLoopTree;
import com.sun.source.util.JavacTask;
import com.sun.source.util.TreePath;
import com.sun.source.util.TreePathScanner;
import com.sun.source.util.Trees;
import java.io.File;
import java.io.IOException;
import java.nio.charset.StandardCharsets;
import java.nio.file.Files;
import java.util.HashMap;
import java.util.HashSet;
import java.util.LinkedHashSet;
import java.util.List;
import java.util.Map;
import java.util.Set;
import javax.lang.model.element.Element;
import javax.lang.model.element.ElementKind;
import javax.lang.model.element.Modifier;
import javax.lang.model.type.ArrayType;
import javax.lang.model.type.TypeKind;
import javax.lang.model.type.TypeMirror;
import javax.tools.JavaCompiler;
import javax.tools.StandardJavaFileManager;
import javax.tools.ToolProvider;

/**
 * The rules of ../shared/LANGUAGE.md that can be told from the source alone. They are tested more
 * strictly where the class needs less than a rule allows: it uses no texts, no lists and no recursion.
 */
final class LanguageTest extends TreePathScanner<Void, Void> {
    private static final File SOURCE = new File("src/main/java/NestingPlanner.java");
    private static final Set<String> LIBRARY = Set.of("java.lang.Math.max", "java.lang.Math.min", "java.lang.Object.<init>");
    /** The methods that make an object that stays: four objects a call, for at most 512 calls. */
    private static final Set<String> MAKERS = Set.of("<init>", "storeTurned", "placeTurned");
    private static final Checks checks = new Checks();

    private final Trees trees;
    private final CompilationUnitTree unit;
    private final Map<Element, Set<Element>> calls = new HashMap<>();
    private int classes = 0;

    private LanguageTest(Trees trees, CompilationUnitTree unit) {
        this.trees = trees;
        this.unit = unit;
    }

    public static void main(String[] args) throws IOException {
        sourceIsPlain();
        JavaCompiler compiler = ToolProvider.getSystemJavaCompiler();
        try (StandardJavaFileManager files = compiler.getStandardFileManager(null, null, null)) {
            JavacTask task = (JavacTask) compiler.getTask(null, files, null, List.of("-proc:none"), null,
                files.getJavaFileObjects(SOURCE));
            CompilationUnitTree unit = task.parse().iterator().next();
            task.analyze();
            new LanguageTest(Trees.instance(task), unit).testAll();
        }
        checks.finish();
    }

    /** Rule 4: signs are 1 to 127. */
    private static void sourceIsPlain() throws IOException {
        String source = Files.readString(SOURCE.toPath(), StandardCharsets.ISO_8859_1);
        long other = source.chars().filter(c -> c > 126 || c < ' ' && c != '\n').count();
        checks.due("rule 4: signs beyond 126, tabs and their like", other, 0);
    }

    private void testAll() {
        rule(1, "no package", unit.getPackageName() == null, unit);
        rule(4, "no import", unit.getImports().isEmpty(), unit);
        rule(1, "one class in the file", unit.getTypeDecls().size() == 1, unit);
        scan(new TreePath(unit), null);
        rule(11, "at most twelve classes", classes <= 12 && classes > 0, unit);
        for (Element method : calls.keySet()) {
            Set<Element> open = new LinkedHashSet<>();
            int depth = depth(method, open);
            rule(11, "calls go at most eight deep from " + method, depth <= 8, unit);
        }
    }

    private void rule(int number, String what, boolean holds, Tree where) {
        long at = trees.getSourcePositions().getStartPosition(unit, where);
        checks.due("rule " + number + ": " + what + ", line " + line(at), holds ? 1 : 0, 1);
    }

    private long line(long position) {
        return position < 0 ? 0 : unit.getLineMap().getLineNumber(position);
    }

    private void never(int number, Tree tree) {
        rule(number, "no " + tree.getKind(), false, tree);
    }

    /** The calls that stand open at once; a method that calls itself, by way of others too, is one of 1000. */
    private int depth(Element method, Set<Element> open) {
        if (!open.add(method)) {
            return 1000;
        }
        int deepest = 0;
        for (Element called : calls.getOrDefault(method, Set.of())) {
            deepest = Math.max(deepest, depth(called, open));
        }
        open.remove(method);
        return deepest + 1;
    }

    // ---- classes and fields

    @Override
    public Void visitClass(ClassTree tree, Void none) {
        classes++;
        Element element = element();
        boolean outer = getCurrentPath().getParentPath().getLeaf() == unit;
        boolean inner = element.getEnclosingElement().getKind().isClass();
        Set<Modifier> modifiers = element.getModifiers();
        rule(2, "a class of the file, or a static one inside it", outer || inner && modifiers.contains(Modifier.STATIC), tree);
        rule(2, "a class inside is not public or protected", outer
            || !modifiers.contains(Modifier.PUBLIC) && !modifiers.contains(Modifier.PROTECTED), tree);
        rule(2, "no enum with fields of other types: none is used", tree.getKind() == Tree.Kind.CLASS, tree);
        long fields = tree.getMembers().stream().filter(m -> m instanceof VariableTree v
            && !v.getModifiers().getFlags().contains(Modifier.STATIC)).count();
        rule(11, "at most twenty fields", fields <= 20, tree);
        boolean initialised = tree.getMembers().stream().anyMatch(m -> m instanceof BlockTree);
        rule(5, "no initialiser block", !initialised, tree);
        return super.visitClass(tree, none);
    }

    @Override
    public Void visitVariable(VariableTree tree, Void none) {
        Element element = element();
        TypeMirror type = element.asType();
        rule(3, "a type of the list: " + type, isAllowed(type), tree);
        if (element.getKind() == ElementKind.FIELD && element.getModifiers().contains(Modifier.STATIC)) {
            rule(5, "a static field is final", element.getModifiers().contains(Modifier.FINAL), tree);
            rule(5, "and a constant, or an array that is written out",
                element.asType().getKind().isPrimitive() || tree.getInitializer().getKind() == Tree.Kind.NEW_ARRAY, tree);
        }
        return super.visitVariable(tree, none);
    }

    private boolean isAllowed(TypeMirror type) {
        if (type.getKind() == TypeKind.ARRAY) {
            TypeMirror part = ((ArrayType) type).getComponentType();
            return part.getKind() != TypeKind.ARRAY && isAllowed(part);
        }
        boolean number = type.getKind() == TypeKind.INT || type.getKind() == TypeKind.LONG;
        return number || type.getKind() == TypeKind.BOOLEAN || type.toString().startsWith("NestingPlanner");
    }

    // ---- methods and calls

    @Override
    public Void visitMethod(MethodTree tree, Void none) {
        rule(11, "at most seven parameters of " + tree.getName(), tree.getParameters().size() <= 7, tree);
        rule(6, "no method of all objects: " + tree.getName(), !Set.of("equals", "hashCode", "toString", "finalize")
            .contains(tree.getName().toString()), tree);
        rule(6, "no throws clause", tree.getThrows().isEmpty(), tree);
        long first = line(trees.getSourcePositions().getStartPosition(unit, tree));
        long last = line(trees.getSourcePositions().getEndPosition(unit, tree));
        rule(11, "at most sixty lines of " + tree.getName(), last - first < 60, tree);
        calls.computeIfAbsent(element(), e -> new HashSet<>());
        return super.visitMethod(tree, none);
    }

    @Override
    public Void visitMethodInvocation(MethodInvocationTree tree, Void none) {
        call(tree);
        return super.visitMethodInvocation(tree, none);
    }

    @Override
    public Void visitNewClass(NewClassTree tree, Void none) {
        call(tree);
        rule(2, "no anonymous class", tree.getClassBody() == null, tree);
        Element maker = caller();
        rule(12, "an object is made in a constructor or a maker",
            maker == null || MAKERS.contains(maker.getSimpleName().toString()), tree);
        return super.visitNewClass(tree, none);
    }

    @Override
    public Void visitNewArray(NewArrayTree tree, Void none) {
        Element maker = caller();
        rule(12, "an array is made in a constructor or for a field",
            maker == null || maker.getKind() == ElementKind.CONSTRUCTOR, tree);
        return super.visitNewArray(tree, none);
    }

    private void call(ExpressionTree tree) {
        Element called = element();
        String owner = called.getEnclosingElement().toString();
        if (owner.startsWith("NestingPlanner")) {
            Element caller = caller();
            if (caller != null) {
                calls.computeIfAbsent(caller, e -> new HashSet<>()).add(called);
            }
        } else {
            String name = owner + "." + called.getSimpleName();
            rule(4, "of the library only what stands there: " + name, LIBRARY.contains(name), tree);
        }
    }

    /** The method that stands around the place, or null in the initialiser of a field. */
    private Element caller() {
        for (TreePath path = getCurrentPath(); path != null; path = path.getParentPath()) {
            if (path.getLeaf() instanceof MethodTree) {
                return trees.getElement(path);
            }
        }
        return null;
    }

    private Element element() {
        return trees.getElement(getCurrentPath());
    }

    // ---- statements and expressions

    @Override
    public Void visitForLoop(ForLoopTree tree, Void none) {
        rule(9, "a loop has an end", tree.getCondition() != null && hasEnd(tree.getCondition()), tree);
        return super.visitForLoop(tree, none);
    }

    @Override
    public Void visitWhileLoop(WhileLoopTree tree, Void none) {
        rule(9, "a loop has an end", hasEnd(tree.getCondition()), tree);
        return super.visitWhileLoop(tree, none);
    }

    @Override
    public Void visitDoWhileLoop(DoWhileLoopTree tree, Void none) {
        rule(9, "a loop has an end", hasEnd(tree.getCondition()), tree);
        return super.visitDoWhileLoop(tree, none);
    }

    /** Whether a counter is compared in the condition: its bound is seen there. */
    private static boolean hasEnd(ExpressionTree condition) {
        return condition.toString().contains("<");
    }

    @Override
    public Void visitBinary(BinaryTree tree, Void none) {
        boolean bits = List.of(Tree.Kind.AND, Tree.Kind.OR, Tree.Kind.XOR).contains(tree.getKind());
        rule(10, "& | ^ are of numbers", !bits || isNumber(), tree);
        return super.visitBinary(tree, none);
    }

    @Override
    public Void visitCompoundAssignment(CompoundAssignmentTree tree, Void none) {
        rule(10, "a compound assignment is of numbers", isNumber(), tree);
        return super.visitCompoundAssignment(tree, none);
    }

    private boolean isNumber() {
        TypeKind kind = trees.getTypeMirror(getCurrentPath()).getKind();
        return kind == TypeKind.INT || kind == TypeKind.LONG;
    }

    @Override
    public Void visitLiteral(LiteralTree tree, Void none) {
        rule(3, "no text is used", tree.getKind() != Tree.Kind.STRING_LITERAL, tree);
        return super.visitLiteral(tree, none);
    }

    @Override
    public Void visitLambdaExpression(LambdaExpressionTree tree, Void none) {
        never(2, tree);
        return super.visitLambdaExpression(tree, none);
    }

    @Override
    public Void visitMemberReference(MemberReferenceTree tree, Void none) {
        never(2, tree);
        return super.visitMemberReference(tree, none);
    }

    @Override
    public Void visitThrow(ThrowTree tree, Void none) {
        never(6, tree);
        return super.visitThrow(tree, none);
    }

    @Override
    public Void visitTry(TryTree tree, Void none) {
        never(6, tree);
        return super.visitTry(tree, none);
    }

    @Override
    public Void visitSynchronized(SynchronizedTree tree, Void none) {
        never(6, tree);
        return super.visitSynchronized(tree, none);
    }

    @Override
    public Void visitAssert(AssertTree tree, Void none) {
        never(6, tree);
        return super.visitAssert(tree, none);
    }
}
