import com.sun.source.tree.ArrayAccessTree;
import com.sun.source.tree.AssertTree;
import com.sun.source.tree.BlockTree;
import com.sun.source.tree.ClassTree;
import com.sun.source.tree.CompilationUnitTree;
import com.sun.source.tree.DoWhileLoopTree;
import com.sun.source.tree.ExpressionTree;
import com.sun.source.tree.ForLoopTree;
import com.sun.source.tree.IdentifierTree;
import com.sun.source.tree.InstanceOfTree;
import com.sun.source.tree.LambdaExpressionTree;
import com.sun.source.tree.MemberReferenceTree;
import com.sun.source.tree.MemberSelectTree;
import com.sun.source.tree.MethodInvocationTree;
import com.sun.source.tree.MethodTree;
import com.sun.source.tree.NewArrayTree;
import com.sun.source.tree.NewClassTree;
import com.sun.source.tree.SynchronizedTree;
import com.sun.source.tree.ThrowTree;
import com.sun.source.tree.Tree;
import com.sun.source.tree.TryTree;
import com.sun.source.tree.TypeCastTree;
import com.sun.source.tree.VariableTree;
import com.sun.source.tree.WhileLoopTree;
import com.sun.source.util.JavacTask;
import com.sun.source.util.TreePath;
import com.sun.source.util.TreePathScanner;
import com.sun.source.util.Trees;
import java.io.IOException;
import java.lang.reflect.Array;
import java.lang.reflect.Field;
import java.nio.file.Files;
import java.nio.file.Path;
import java.util.ArrayDeque;
import java.util.Arrays;
import java.util.Collections;
import java.util.HashMap;
import java.util.IdentityHashMap;
import java.util.List;
import java.util.Map;
import java.util.Set;
import java.util.TreeMap;
import java.util.TreeSet;
import javax.lang.model.element.Element;
import javax.lang.model.element.ElementKind;
import javax.lang.model.element.Modifier;
import javax.lang.model.element.TypeElement;
import javax.lang.model.type.TypeKind;
import javax.lang.model.type.TypeMirror;
import javax.tools.JavaCompiler;
import javax.tools.StandardJavaFileManager;
import javax.tools.ToolProvider;

/**
 * The class keeps to ../shared/LANGUAGE.md, as far as its text tells; what it has no use for of what the rules allow,
 * such as exceptions, casts of objects and recursion, is not looked at further, but must not be there.
 */
final class LanguageTest extends TreePathScanner<Void, Void> {
    private static final Path SOURCE = Path.of("src", "main", "java", "SharedBlocks.java");
    private static final Set<String> LIBRARY = Set.of("java.lang.Math.min(int,int)", "java.lang.Math.max(int,int)",
            "java.lang.Math.min(long,long)", "java.lang.Object.Object()",
            "java.lang.System.arraycopy(java.lang.Object,int,java.lang.Object,int,int)");
    private static final int MOST_LINES = 60, MOST_PARAMETERS = 7, MOST_CLASSES = 12, MOST_FIELDS = 20, MOST_DEPTH = 8;
    private static final int MOST_OBJECTS = 600_000, MOST_ELEMENTS = 7_300_000;

    private final Trees trees;
    private final CompilationUnitTree unit;
    private final Map<String, Set<String>> calls = new TreeMap<>();
    private int classes = 0;

    private LanguageTest(Trees trees, CompilationUnitTree unit) {
        this.trees = trees;
        this.unit = unit;
    }

    public static void main(String[] args) throws IOException, IllegalAccessException {
        JavaCompiler compiler = ToolProvider.getSystemJavaCompiler();
        try (StandardJavaFileManager files = compiler.getStandardFileManager(null, null, null)) {
            JavacTask task = (JavacTask) compiler.getTask(null, files, null, List.of("-proc:none"), null,
                    files.getJavaFileObjects(SOURCE));
            CompilationUnitTree unit = task.parse().iterator().next();
            task.analyze();
            LanguageTest test = new LanguageTest(Trees.instance(task), unit);
            test.file();
            test.scan(unit, null);
            test.depths();
        }
        signs();
        room();
        Due.end();
    }

    private void rule(int number, String what, boolean kept, Tree at) {
        long line = unit.getLineMap().getLineNumber(trees.getSourcePositions().getStartPosition(unit, at));
        Due.holds("LANGUAGE.md, rule " + number + ", line " + line + ": " + what, kept);
    }

    private void file() {
        rule(1, "no package, and no import", unit.getPackage() == null && unit.getImports().isEmpty(), unit);
        rule(1, "one class alone outside others", unit.getTypeDecls().size() == 1, unit);
    }

    private static void signs() throws IOException {
        for (byte b : Files.readAllBytes(SOURCE)) {
            Due.holds("the sign " + b + " is one of the file", b == '\n' || b >= ' ' && b < 127);
        }
    }

    private Element element() {
        return trees.getElement(getCurrentPath());
    }

    private Tree parent() {
        return getCurrentPath().getParentPath().getLeaf();
    }

    /** The method or constructor that is looked at; "" in a field's initialiser. */
    private String method() {
        for (TreePath path = getCurrentPath(); path != null; path = path.getParentPath()) {
            if (path.getLeaf() instanceof MethodTree) {
                return nameOf(trees.getElement(path));
            }
        }
        return "";
    }

    private static String nameOf(Element method) {
        String owner = ((TypeElement) method.getEnclosingElement()).getQualifiedName().toString();
        String name = method.toString();
        return owner + "." + (method.getKind() == ElementKind.CONSTRUCTOR
                ? method.getEnclosingElement().getSimpleName() + name.substring(name.indexOf('(')) : name);
    }

    private boolean isMaking() {
        String method = method();
        String name = method.substring(0, Math.max(method.indexOf('('), 0));
        String[] parts = name.split("\\.");
        return method.isEmpty() || parts.length > 1 && parts[parts.length - 1].equals(parts[parts.length - 2]);
    }

    @Override
    public Void visitClass(ClassTree tree, Void nothing) {
        classes++;
        boolean inside = parent() instanceof ClassTree;
        rule(2, "a class in a class or the one of the file", inside || parent() == unit, tree);
        Set<Modifier> flags = tree.getModifiers().getFlags();
        rule(2, "a class inside is private and static", !inside || flags.contains(Modifier.STATIC)
                && flags.contains(Modifier.PRIVATE), tree);
        int fields = 0;
        for (Tree member : tree.getMembers()) {
            rule(5, "no block outside methods", !(member instanceof BlockTree), member);
            if (member instanceof VariableTree) {
                fields += isStatic((VariableTree) member) ? 0 : 1;
            }
        }
        rule(11, fields + " fields", fields <= MOST_FIELDS, tree);
        rule(11, classes + " classes", classes <= MOST_CLASSES, tree);
        return super.visitClass(tree, nothing);
    }

    private static boolean isStatic(VariableTree tree) {
        return tree.getModifiers().getFlags().contains(Modifier.STATIC);
    }

    @Override
    public Void visitVariable(VariableTree tree, Void nothing) {
        if (isStatic(tree)) {
            rule(5, "a static field is final", tree.getModifiers().getFlags().contains(Modifier.FINAL), tree);
            boolean row = tree.getInitializer() instanceof NewArrayTree
                    && ((NewArrayTree) tree.getInitializer()).getInitializers() != null;
            rule(5, "it is a number or a row that is written out",
                    row || element().asType().getKind().isPrimitive(), tree);
        }
        rule(3, "a type of the list: " + tree.getType(), isType(element().asType(), 0), tree);
        return super.visitVariable(tree, nothing);
    }

    private static boolean isType(TypeMirror type, int dimensions) {
        if (type.getKind() == TypeKind.ARRAY) {
            return isType(((javax.lang.model.type.ArrayType) type).getComponentType(), dimensions + 1);
        }
        return dimensions <= 1 && (type.getKind().isPrimitive() || type.toString().startsWith("SharedBlocks"));
    }

    @Override
    public Void visitMethod(MethodTree tree, Void nothing) {
        String name = nameOf(element());
        calls.putIfAbsent(name, new TreeSet<>());
        rule(11, tree.getParameters().size() + " parameters of " + name,
                tree.getParameters().size() <= MOST_PARAMETERS, tree);
        rule(6, "no equals, hashCode or toString",
                !List.of("equals", "hashCode", "toString").contains(tree.getName().toString()), tree);
        // A constructor that the compiler adds has no place in the file.
        long begin = trees.getSourcePositions().getStartPosition(unit, tree);
        long end = trees.getSourcePositions().getEndPosition(unit, tree);
        if (end > begin) {
            long lines = unit.getLineMap().getLineNumber(end) - unit.getLineMap().getLineNumber(begin) + 1;
            rule(11, name + " has " + lines + " lines", lines <= MOST_LINES, tree);
        }
        return super.visitMethod(tree, nothing);
    }

    private void called(Element method, Tree tree) {
        String name = nameOf(method);
        if (name.startsWith("SharedBlocks")) {
            calls.computeIfAbsent(method(), key -> new TreeSet<>()).add(name);
        } else {
            rule(4, "of the library: " + name, LIBRARY.contains(name), tree);
        }
    }

    @Override
    public Void visitMethodInvocation(MethodInvocationTree tree, Void nothing) {
        called(element(), tree);
        return super.visitMethodInvocation(tree, nothing);
    }

    @Override
    public Void visitNewClass(NewClassTree tree, Void nothing) {
        called(element(), tree);
        rule(2, "no class without a name", tree.getClassBody() == null, tree);
        rule(12, "an object is made by constructors alone", isMaking(), tree);
        return super.visitNewClass(tree, nothing);
    }

    @Override
    public Void visitNewArray(NewArrayTree tree, Void nothing) {
        rule(12, "a row is made by constructors alone", isMaking(), tree);
        return super.visitNewArray(tree, nothing);
    }

    @Override
    public Void visitIdentifier(IdentifierTree tree, Void nothing) {
        if (tree.getName().contentEquals("this")) {
            rule(12, "this is not handed out", parent() instanceof MemberSelectTree, tree);
        }
        if (tree.getName().contentEquals("ORDER")) {
            boolean read = parent() instanceof MemberSelectTree || parent() instanceof ArrayAccessTree
                    && !isAssigned(getCurrentPath().getParentPath());
            rule(5, "a row of constants is read alone", read, tree);
        }
        return super.visitIdentifier(tree, nothing);
    }

    private static boolean isAssigned(TreePath path) {
        Tree tree = path.getParentPath().getLeaf();
        return switch (tree.getKind()) {
            case ASSIGNMENT -> ((com.sun.source.tree.AssignmentTree) tree).getVariable() == path.getLeaf();
            case POSTFIX_INCREMENT, POSTFIX_DECREMENT, PREFIX_INCREMENT, PREFIX_DECREMENT -> true;
            default -> tree instanceof com.sun.source.tree.CompoundAssignmentTree
                    && ((com.sun.source.tree.CompoundAssignmentTree) tree).getVariable() == path.getLeaf();
        };
    }

    private void isBounded(ExpressionTree condition, Tree tree) {
        String text = condition == null ? "true" : condition.toString().replace("(", "").replace(")", "");
        rule(9, "a loop has an end: " + text, !text.equals("true"), tree);
    }

    @Override
    public Void visitForLoop(ForLoopTree tree, Void nothing) {
        isBounded(tree.getCondition(), tree);
        return super.visitForLoop(tree, nothing);
    }

    @Override
    public Void visitWhileLoop(WhileLoopTree tree, Void nothing) {
        isBounded(tree.getCondition(), tree);
        return super.visitWhileLoop(tree, nothing);
    }

    @Override
    public Void visitDoWhileLoop(DoWhileLoopTree tree, Void nothing) {
        isBounded(tree.getCondition(), tree);
        return super.visitDoWhileLoop(tree, nothing);
    }

    @Override
    public Void visitTypeCast(TypeCastTree tree, Void nothing) {
        rule(7, "numbers alone are cast", tree.getType() instanceof com.sun.source.tree.PrimitiveTypeTree, tree);
        return super.visitTypeCast(tree, nothing);
    }

    @Override
    public Void visitLambdaExpression(LambdaExpressionTree tree, Void nothing) {
        rule(2, "no lambda", false, tree);
        return super.visitLambdaExpression(tree, nothing);
    }

    @Override
    public Void visitMemberReference(MemberReferenceTree tree, Void nothing) {
        rule(2, "no method reference", false, tree);
        return super.visitMemberReference(tree, nothing);
    }

    @Override
    public Void visitThrow(ThrowTree tree, Void nothing) {
        rule(6, "the document names no exception", false, tree);
        return super.visitThrow(tree, nothing);
    }

    @Override
    public Void visitTry(TryTree tree, Void nothing) {
        rule(6, "nothing is thrown, so nothing is caught", false, tree);
        return super.visitTry(tree, nothing);
    }

    @Override
    public Void visitSynchronized(SynchronizedTree tree, Void nothing) {
        rule(6, "no synchronized", false, tree);
        return super.visitSynchronized(tree, nothing);
    }

    @Override
    public Void visitAssert(AssertTree tree, Void nothing) {
        rule(6, "no assert", false, tree);
        return super.visitAssert(tree, nothing);
    }

    @Override
    public Void visitInstanceOf(InstanceOfTree tree, Void nothing) {
        rule(6, "there is but one sort of each object", false, tree);
        return super.visitInstanceOf(tree, nothing);
    }

    private void depths() {
        Map<String, Integer> known = new HashMap<>();
        for (String method : calls.keySet()) {
            int depth = depthOf(method, known, new TreeSet<>());
            Due.holds("LANGUAGE.md, rule 11: the calls of " + method + " go " + depth + " deep", depth <= MOST_DEPTH);
        }
    }

    /** How many calls stand open at once, this one among them. */
    private int depthOf(String method, Map<String, Integer> known, Set<String> open) {
        if (known.containsKey(method)) {
            return known.get(method);
        }
        if (!open.add(method)) {
            Due.holds("LANGUAGE.md, rule 8: " + method + " calls itself, over others at least", false);
            return 0;
        }
        int deepest = 0;
        for (String next : calls.getOrDefault(method, Set.of())) {
            deepest = Math.max(deepest, depthOf(next, known, open));
        }
        open.remove(method);
        known.put(method, deepest + 1);
        return deepest + 1;
    }

    /** All that an object holds, when it is new and when much was done with it: as no call makes a row, the same. */
    private static void room() throws IllegalAccessException {
        SharedBlocks x = new SharedBlocks();
        long[] fresh = held(x);
        for (int i = 0; i < 8; i++) {
            x.feed(i * 0x0123456789abcdefL, 8);
        }
        x.write(0, 64);
        x.fill(63, 1, 5, 40_000);
        x.put(16, true, true);
        x.read(63, 39_000, 4096);
        x.patch(7, 9);
        x.cut(x.size() - 1);
        long[] used = held(x);
        Due.holds("the room has " + fresh[0] + " objects", fresh[0] < MOST_OBJECTS / 100);
        Due.holds("the room has " + fresh[1] + " fields and elements", fresh[1] < MOST_ELEMENTS / 10);
        Due.holds("calls make nothing", Arrays.equals(fresh, used));
    }

    private static long[] held(Object root) throws IllegalAccessException {
        Set<Object> seen = Collections.newSetFromMap(new IdentityHashMap<>());
        ArrayDeque<Object> left = new ArrayDeque<>();
        seen.add(root);
        left.add(root);
        long cells = 0;
        while (!left.isEmpty()) {
            Object object = left.remove();
            if (object.getClass().isArray()) {
                cells += Array.getLength(object);
                continue;
            }
            for (Field field : object.getClass().getDeclaredFields()) {
                if (java.lang.reflect.Modifier.isStatic(field.getModifiers())) {
                    continue;
                }
                cells++;
                field.setAccessible(true);
                Object held = field.get(object);
                if (!field.getType().isPrimitive() && held != null && seen.add(held)) {
                    left.add(held);
                }
            }
        }
        return new long[] {seen.size(), cells};
    }
}
