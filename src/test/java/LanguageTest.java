import com.sun.source.tree.AnnotationTree;
import com.sun.source.tree.AssertTree;
import com.sun.source.tree.AssignmentTree;
import com.sun.source.tree.BinaryTree;
import com.sun.source.tree.BlockTree;
import com.sun.source.tree.ClassTree;
import com.sun.source.tree.CompilationUnitTree;
import com.sun.source.tree.CompoundAssignmentTree;
import com.sun.source.tree.DoWhileLoopTree;
import com.sun.source.tree.ExpressionTree;
import com.sun.source.tree.ForLoopTree;
import com.sun.source.tree.LambdaExpressionTree;
import com.sun.source.tree.LiteralTree;
import com.sun.source.tree.MemberReferenceTree;
import com.sun.source.tree.MethodInvocationTree;
import com.sun.source.tree.MethodTree;
import com.sun.source.tree.NewArrayTree;
import com.sun.source.tree.NewClassTree;
import com.sun.source.tree.SynchronizedTree;
import com.sun.source.tree.ThrowTree;
import com.sun.source.tree.Tree;
import com.sun.source.tree.TryTree;
import com.sun.source.tree.UnaryTree;
import com.sun.source.tree.VariableTree;
import com.sun.source.tree.WhileLoopTree;
import com.sun.source.util.JavacTask;
import com.sun.source.util.TreePath;
import com.sun.source.util.TreePathScanner;
import com.sun.source.util.Trees;
import java.io.IOException;
import java.nio.file.Files;
import java.nio.file.Path;
import java.util.ArrayList;
import java.util.EnumSet;
import java.util.HashMap;
import java.util.List;
import java.util.Map;
import java.util.Set;
import java.util.TreeMap;
import java.util.TreeSet;
import java.util.regex.Pattern;
import javax.lang.model.element.Element;
import javax.lang.model.element.ElementKind;
import javax.lang.model.element.ExecutableElement;
import javax.lang.model.element.Modifier;
import javax.lang.model.element.VariableElement;
import javax.lang.model.type.ArrayType;
import javax.lang.model.type.TypeKind;
import javax.lang.model.type.TypeMirror;
import javax.tools.JavaCompiler;
import javax.tools.StandardJavaFileManager;
import javax.tools.ToolProvider;

/** LANGUAGE.md, rule by rule, as far as the tree of the class tells it. (FaceTest looks at rule 1.) */
public final class LanguageTest extends TreePathScanner<Void, Void> {
    private static final Path SOURCE = Path.of("src/main/java/BurstPeeler.java");
    private static final Set<String> STRING_CALLS = Set.of("length", "charAt", "isEmpty", "equals", "indexOf", "substring",
        "toCharArray");
    private static final Set<Tree.Kind> ON_FLOATS = EnumSet.of(Tree.Kind.PLUS, Tree.Kind.MINUS, Tree.Kind.MULTIPLY,
        Tree.Kind.DIVIDE, Tree.Kind.LESS_THAN, Tree.Kind.LESS_THAN_EQUAL, Tree.Kind.GREATER_THAN,
        Tree.Kind.GREATER_THAN_EQUAL, Tree.Kind.EQUAL_TO, Tree.Kind.NOT_EQUAL_TO);
    private static final int DEEPEST = 8;
    private static final int LONGEST = 60;

    private final Trees trees;
    private final CompilationUnitTree unit;
    private final Set<String> ownClasses = new TreeSet<>();
    private final Map<String, Set<String>> calls = new TreeMap<>();
    private final Set<String> privateStaticMethods = new TreeSet<>();
    private int classes = 0;

    private LanguageTest(Trees trees, CompilationUnitTree unit) {
        this.trees = trees;
        this.unit = unit;
    }

    private String where(Tree tree) {
        long at = trees.getSourcePositions().getStartPosition(unit, tree);
        return "line " + unit.getLineMap().getLineNumber(at);
    }

    private void holds(int rule, Tree tree, String what, boolean good) {
        Check.due("rule " + rule + ", " + where(tree) + ": " + what, good, true);
    }

    private TypeMirror typeOf(Tree tree) {
        return trees.getTypeMirror(new TreePath(getCurrentPath(), tree));
    }

    private Element elementOf(Tree tree) {
        return trees.getElement(new TreePath(getCurrentPath(), tree));
    }

    private boolean isFloating(TypeMirror type) {
        return type.getKind() == TypeKind.FLOAT || type.getKind() == TypeKind.DOUBLE;
    }

    // ---- rule 2: classes inside; rule 11: how many

    @Override
    public Void visitClass(ClassTree tree, Void none) {
        classes++;
        boolean isTop = getCurrentPath().getParentPath().getLeaf() == unit;
        boolean isMember = getCurrentPath().getParentPath().getLeaf() instanceof ClassTree;
        holds(2, tree, tree.getSimpleName() + " stands in the file or in a class", isTop || isMember);
        Set<Modifier> flags = tree.getModifiers().getFlags();
        holds(1, tree, tree.getSimpleName() + " is static", isTop || flags.contains(Modifier.STATIC));
        holds(1, tree, tree.getSimpleName() + " is not open",
            isTop || !flags.contains(Modifier.PUBLIC) && !flags.contains(Modifier.PROTECTED));
        int fields = 0;
        for (Tree member : tree.getMembers()) {
            if (member instanceof VariableTree field && !field.getModifiers().getFlags().contains(Modifier.STATIC)) {
                fields++;
            }
        }
        holds(11, tree, "some twenty fields", fields <= 20);
        return super.visitClass(tree, none);
    }

    @Override
    public Void visitLambdaExpression(LambdaExpressionTree tree, Void none) {
        holds(2, tree, "no lambda", false);
        return null;
    }

    @Override
    public Void visitMemberReference(MemberReferenceTree tree, Void none) {
        holds(2, tree, "no method reference", false);
        return null;
    }

    @Override
    public Void visitAnnotation(AnnotationTree tree, Void none) {
        holds(4, tree, "no annotation", false);
        return null;
    }

    // ---- rule 3: types and numbers; rule 5: static fields

    private boolean isGoodType(TypeMirror type) {
        if (type.getKind().isPrimitive()) {
            return true;
        }
        if (type.getKind() == TypeKind.ARRAY) {
            TypeMirror part = ((ArrayType) type).getComponentType();
            boolean isTwofold = part.getKind() == TypeKind.ARRAY;
            TypeMirror inmost = isTwofold ? ((ArrayType) part).getComponentType() : part;
            return inmost.getKind().isPrimitive() || !isTwofold && ownClasses.contains(inmost.toString());
        }
        return type.toString().equals("java.lang.String") || ownClasses.contains(type.toString());
    }

    @Override
    public Void visitVariable(VariableTree tree, Void none) {
        VariableElement element = (VariableElement) trees.getElement(getCurrentPath());
        holds(3, tree, "the type of " + tree.getName(), isGoodType(element.asType()));
        if (element.getModifiers().contains(Modifier.STATIC)) {
            holds(5, tree, tree.getName() + " is final", element.getModifiers().contains(Modifier.FINAL));
            boolean isList = tree.getInitializer() instanceof NewArrayTree array && array.getType() == null
                || tree.getInitializer() instanceof NewArrayTree written && written.getInitializers() != null;
            boolean isConstant = element.getConstantValue() != null && !isFloating(element.asType());
            holds(5, tree, tree.getName() + " is a constant or an array written out", isConstant || isList);
        }
        return super.visitVariable(tree, none);
    }

    @Override
    public Void visitBinary(BinaryTree tree, Void none) {
        TypeMirror left = typeOf(tree.getLeftOperand());
        TypeMirror right = typeOf(tree.getRightOperand());
        if (isFloating(left) || isFloating(right)) {
            holds(3, tree, "+ - * / and comparisons alone on doubles and floats", ON_FLOATS.contains(tree.getKind()));
        }
        boolean isDivided = tree.getKind() == Tree.Kind.DIVIDE || tree.getKind() == Tree.Kind.REMAINDER;
        if (isDivided && !isFloating(left) && !isFloating(right)) {
            holds(7, tree, "the divisor is looked at before it divides", isLookedAt(tree.getRightOperand()));
        }
        boolean isText = left.toString().equals("java.lang.String") || right.toString().equals("java.lang.String");
        holds(10, tree, "no joining of texts by +, no == of texts", !isText);
        return super.visitBinary(tree, none);
    }

    /** A divisor that is written as a number or a constant, or that the method around compares with 0. */
    private boolean isLookedAt(ExpressionTree divisor) {
        boolean isConstant = divisor instanceof LiteralTree
            || elementOf(divisor) instanceof VariableElement v && v.getConstantValue() != null;
        for (TreePath path = getCurrentPath(); path != null && !isConstant; path = path.getParentPath()) {
            if (path.getLeaf() instanceof MethodTree around) {
                return around.toString().matches("(?s).*\\b" + Pattern.quote(divisor.toString()) + " (==|!=|<=|>) 0\\b.*");
            }
        }
        return isConstant;
    }

    @Override
    public Void visitUnary(UnaryTree tree, Void none) {
        if (isFloating(typeOf(tree.getExpression()))) {
            holds(3, tree, "no ++ and -- of doubles and floats", tree.getKind() == Tree.Kind.UNARY_MINUS);
        }
        notStaticArray(tree, tree.getExpression(), tree.getKind().name().contains("CREMENT"));
        return super.visitUnary(tree, none);
    }

    @Override
    public Void visitCompoundAssignment(CompoundAssignmentTree tree, Void none) {
        boolean isFloating = isFloating(typeOf(tree.getVariable())) || isFloating(typeOf(tree.getExpression()));
        holds(3, tree, "doubles and floats are set by =", !isFloating);
        notStaticArray(tree, tree.getVariable(), true);
        return super.visitCompoundAssignment(tree, none);
    }

    @Override
    public Void visitAssignment(AssignmentTree tree, Void none) {
        notStaticArray(tree, tree.getVariable(), true);
        return super.visitAssignment(tree, none);
    }

    /** Arrays that are constants are never changed: rule 5. */
    private void notStaticArray(Tree tree, ExpressionTree changed, boolean isChange) {
        if (isChange && changed instanceof com.sun.source.tree.ArrayAccessTree access) {
            Element array = elementOf(access.getExpression());
            holds(5, tree, "no constant is changed", array == null || !array.getModifiers().contains(Modifier.STATIC));
        }
    }

    // ---- rule 4: the library; rule 12: nothing is made but in constructors

    private static boolean isWhole(TypeMirror type) {
        return type.getKind() == TypeKind.INT || type.getKind() == TypeKind.LONG;
    }

    private boolean isGoodLibraryCall(ExecutableElement method, MethodInvocationTree tree) {
        String owner = method.getEnclosingElement().toString();
        String name = method.getSimpleName().toString();
        switch (owner) {
            case "java.lang.String":
                boolean isOfChar = !name.equals("indexOf") || typeOf(tree.getArguments().get(0)).getKind() == TypeKind.CHAR;
                return STRING_CALLS.contains(name) && isOfChar;
            case "java.lang.Integer":
            case "java.lang.Long":
            case "java.lang.Math":
                return method.getModifiers().contains(Modifier.STATIC) && !name.endsWith("Exact")
                    && isWhole(method.getReturnType()) && method.getParameters().stream().allMatch(p -> isWhole(p.asType()));
            case "java.lang.System":
                return name.equals("arraycopy");
            case "java.util.Arrays":
                return Set.of("fill", "copyOf", "copyOfRange").contains(name);
            default:
                return false;
        }
    }

    private ExecutableElement methodAround() {
        for (TreePath path = getCurrentPath(); path != null; path = path.getParentPath()) {
            if (path.getLeaf() instanceof MethodTree) {
                return (ExecutableElement) trees.getElement(path);
            }
        }
        return null;
    }

    private static String nameOf(ExecutableElement method) {
        return method.getEnclosingElement() + "." + method;
    }

    @Override
    public Void visitMethodInvocation(MethodInvocationTree tree, Void none) {
        ExecutableElement method = (ExecutableElement) trees.getElement(getCurrentPath());
        ExecutableElement around = methodAround();
        boolean isSuper = method.getKind() == ElementKind.CONSTRUCTOR;
        boolean isOwn = ownClasses.contains(method.getEnclosingElement().toString());
        if (!isSuper && !isOwn) {
            holds(4, tree, "the library has " + method, isGoodLibraryCall(method, tree));
        }
        if (around != null && isOwn) {
            calls.computeIfAbsent(nameOf(around), n -> new TreeSet<>()).add(nameOf(method));
            boolean isMaking = around.getKind() == ElementKind.CONSTRUCTOR;
            boolean canChange = !method.getModifiers().contains(Modifier.PRIVATE) && !isInFinalClass(method);
            holds(12, tree, "a constructor calls nothing that can be overridden", !isMaking || !canChange);
        }
        return super.visitMethodInvocation(tree, none);
    }

    private static boolean isInFinalClass(ExecutableElement method) {
        return method.getEnclosingElement().getModifiers().contains(Modifier.FINAL);
    }

    @Override
    public Void visitNewClass(NewClassTree tree, Void none) {
        boolean isThrown = getCurrentPath().getParentPath().getLeaf() instanceof ThrowTree;
        ExecutableElement around = methodAround();
        boolean isMaking = around == null || around.getKind() == ElementKind.CONSTRUCTOR;
        holds(2, tree, "no class without a name", tree.getClassBody() == null);
        holds(12, tree, "objects are made in constructors", isThrown || isMaking);
        holds(4, tree, "an object of an own class", isThrown || ownClasses.contains(typeOf(tree.getIdentifier()).toString()));
        return super.visitNewClass(tree, none);
    }

    @Override
    public Void visitNewArray(NewArrayTree tree, Void none) {
        ExecutableElement around = methodAround();
        holds(12, tree, "arrays are made in constructors", around == null || around.getKind() == ElementKind.CONSTRUCTOR);
        return super.visitNewArray(tree, none);
    }

    // ---- rule 6: exceptions

    @Override
    public Void visitThrow(ThrowTree tree, Void none) {
        ExecutableElement around = methodAround();
        boolean isNew = tree.getExpression() instanceof NewClassTree;
        holds(6, tree, "throw new E()", isNew);
        holds(6, tree, "the document names it alone",
            isNew && typeOf(tree.getExpression()).toString().equals("java.util.NoSuchElementException"));
        holds(6, tree, "only user() throws", around != null && around.toString().equals("user(int,int)"));
        return super.visitThrow(tree, none);
    }

    @Override
    public Void visitTry(TryTree tree, Void none) {
        holds(6, tree, "nothing is caught here", false);
        return null;
    }

    @Override
    public Void visitSynchronized(SynchronizedTree tree, Void none) {
        holds(6, tree, "no synchronized", false);
        return null;
    }

    @Override
    public Void visitAssert(AssertTree tree, Void none) {
        holds(6, tree, "no assert", false);
        return null;
    }

    @Override
    public Void visitBlock(BlockTree tree, Void none) {
        boolean isInitialiser = getCurrentPath().getParentPath().getLeaf() instanceof ClassTree;
        holds(5, tree, "no block that initialises", !isInitialiser);
        return super.visitBlock(tree, none);
    }

    // ---- rule 9: loops

    private void hasAnEnd(Tree loop, ExpressionTree condition) {
        boolean isCompared = condition != null && condition.toString().matches(".*[<>!=]=?.*");
        holds(9, loop, "the loop has an end", isCompared);
    }

    @Override
    public Void visitWhileLoop(WhileLoopTree tree, Void none) {
        hasAnEnd(tree, tree.getCondition());
        return super.visitWhileLoop(tree, none);
    }

    @Override
    public Void visitDoWhileLoop(DoWhileLoopTree tree, Void none) {
        hasAnEnd(tree, tree.getCondition());
        return super.visitDoWhileLoop(tree, none);
    }

    @Override
    public Void visitForLoop(ForLoopTree tree, Void none) {
        hasAnEnd(tree, tree.getCondition());
        holds(9, tree, "a counter goes on", tree.getUpdate().size() == 1);
        return super.visitForLoop(tree, none);
    }

    // ---- rules 8 and 11: methods

    @Override
    public Void visitMethod(MethodTree tree, Void none) {
        ExecutableElement method = (ExecutableElement) trees.getElement(getCurrentPath());
        calls.computeIfAbsent(nameOf(method), n -> new TreeSet<>());
        if (method.getModifiers().containsAll(List.of(Modifier.PRIVATE, Modifier.STATIC))) {
            privateStaticMethods.add(nameOf(method));
        }
        holds(11, tree, "seven parameters at most", tree.getParameters().size() <= 7);
        long start = trees.getSourcePositions().getStartPosition(unit, tree);
        long end = trees.getSourcePositions().getEndPosition(unit, tree);
        if (end >= 0) {
            long lines = unit.getLineMap().getLineNumber(end) - unit.getLineMap().getLineNumber(start) + 1;
            holds(11, tree, tree.getName() + " is short", lines <= LONGEST);
        }
        return super.visitMethod(tree, none);
    }

    /** How deep calls go from here; -1: in a ring of several methods. A method that calls itself counts once. */
    private int depth(String method, List<String> open, Map<String, Integer> known) {
        if (known.containsKey(method)) {
            return known.get(method);
        }
        if (open.contains(method)) {
            return -1;
        }
        open.add(method);
        int deepest = 0;
        for (String called : calls.getOrDefault(method, Set.of())) {
            int below = called.equals(method) ? 0 : depth(called, open, known);
            Check.due("rule 8: " + method + " and " + called + " call one another", below < 0, false);
            deepest = Math.max(deepest, below);
        }
        open.remove(method);
        known.put(method, deepest + 1);
        return deepest + 1;
    }

    private void checkCalls() {
        Map<String, Integer> known = new HashMap<>();
        for (String method : new ArrayList<>(calls.keySet())) {
            int deep = depth(method, new ArrayList<>(), known);
            Check.due("rule 11: calls below " + method + " go " + deep + " deep", deep <= DEEPEST, true);
            boolean callsItself = calls.get(method).contains(method);
            Check.due("rule 8: " + method + " calls itself and is private and static",
                !callsItself || privateStaticMethods.contains(method), true);
        }
        Check.due("rule 11: some twelve classes", classes <= 12, true);
    }

    private void collectClasses(ClassTree tree, String prefix) {
        String name = prefix + tree.getSimpleName();
        ownClasses.add(name);
        for (Tree member : tree.getMembers()) {
            if (member instanceof ClassTree inner) {
                collectClasses(inner, name + ".");
            }
        }
    }

    private static void checkSigns() throws IOException {
        int number = 0;
        for (String line : Files.readAllLines(SOURCE)) {
            number++;
            boolean isPlain = line.chars().allMatch(c -> c >= 32 && c <= 126);
            Check.due("rule 4: the signs of line " + number, isPlain, true);
            Check.due("line " + number + " is not too long", line.length() <= 120, true);
        }
    }

    public static void main(String[] args) throws IOException {
        JavaCompiler compiler = ToolProvider.getSystemJavaCompiler();
        StandardJavaFileManager files = compiler.getStandardFileManager(null, null, null);
        JavacTask task = (JavacTask) compiler.getTask(null, files, null, List.of("-proc:none"), null,
            files.getJavaFileObjects(SOURCE));
        CompilationUnitTree unit = task.parse().iterator().next();
        task.analyze();
        Check.due("no package", unit.getPackageName() == null, true);
        Check.due("one class in the file", unit.getTypeDecls().size(), 1);
        unit.getImports().forEach(i -> Check.due("rule 4: " + i, i.toString().strip().matches(
            "import java.util.(Arrays|NoSuchElementException);"), true));
        LanguageTest test = new LanguageTest(Trees.instance(task), unit);
        test.collectClasses((ClassTree) unit.getTypeDecls().get(0), "");
        test.scan(unit, null);
        test.checkCalls();
        checkSigns();
        Check.finish();
    }
}
