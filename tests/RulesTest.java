import com.sun.source.tree.AssertTree;
import com.sun.source.tree.BinaryTree;
import com.sun.source.tree.CatchTree;
import com.sun.source.tree.ClassTree;
import com.sun.source.tree.CompilationUnitTree;
import com.sun.source.tree.CompoundAssignmentTree;
import com.sun.source.tree.DoWhileLoopTree;
import com.sun.source.tree.ExpressionTree;
import com.sun.source.tree.ForLoopTree;
import com.sun.source.tree.ImportTree;
import com.sun.source.tree.InstanceOfTree;
import com.sun.source.tree.LambdaExpressionTree;
import com.sun.source.tree.LiteralTree;
import com.sun.source.tree.MemberReferenceTree;
import com.sun.source.tree.MethodInvocationTree;
import com.sun.source.tree.MethodTree;
import com.sun.source.tree.NewArrayTree;
import com.sun.source.tree.NewClassTree;
import com.sun.source.tree.PackageTree;
import com.sun.source.tree.SynchronizedTree;
import com.sun.source.tree.ThrowTree;
import com.sun.source.tree.Tree;
import com.sun.source.tree.TryTree;
import com.sun.source.tree.TypeCastTree;
import com.sun.source.tree.VariableTree;
import com.sun.source.tree.WhileLoopTree;
import com.sun.source.util.JavacTask;
import com.sun.source.util.SourcePositions;
import com.sun.source.util.TreePath;
import com.sun.source.util.TreePathScanner;
import com.sun.source.util.Trees;
import java.io.IOException;
import java.nio.file.Path;
import java.util.ArrayList;
import java.util.HashMap;
import java.util.HashSet;
import java.util.List;
import java.util.Map;
import java.util.Set;
import java.util.TreeMap;
import java.util.TreeSet;
import javax.lang.model.element.Element;
import javax.lang.model.element.ElementKind;
import javax.lang.model.element.ExecutableElement;
import javax.lang.model.element.Modifier;
import javax.lang.model.element.VariableElement;
import javax.tools.JavaCompiler;
import javax.tools.StandardJavaFileManager;
import javax.tools.ToolProvider;

/** The rules of LANGUAGE.md, seen by the compiler's own trees of the program. */
public final class RulesTest extends TreePathScanner<Void, Void> {
    private static final Checks CHECKS = new Checks();
    // Of the library that rule 4 lists, what the program has a use for.
    private static final Set<String> LIBRARY = Set.of("String.length", "String.charAt", "Integer.bitCount", "Math.max",
        "Math.min", "System.arraycopy", "Object.<init>");
    private static final Set<String> TYPES = Set.of("int", "long", "boolean", "int[]", "int[][]", "String", "void");
    private static final Set<String> RECURSIVE = Set.of("OneMark.Moves.evenPlaces", "OneMark.Loops.isExtended");
    private static final int MOST_DEEP = 8, MOST_LINES = 60, MOST_PARAMETERS = 7, MOST_CLASSES = 12, MOST_FIELDS = 20;

    private final Trees trees;
    private final CompilationUnitTree unit;
    private final Map<String, Set<String>> calls = new TreeMap<>();
    private final Set<String> privateStatic = new HashSet<>();
    private final Set<String> classes = new TreeSet<>();

    private RulesTest(Trees trees, CompilationUnitTree unit) {
        this.trees = trees;
        this.unit = unit;
    }

    public static void main(String[] args) throws IOException {
        JavaCompiler compiler = ToolProvider.getSystemJavaCompiler();
        try (StandardJavaFileManager files = compiler.getStandardFileManager(null, null, null)) {
            JavacTask task = (JavacTask) compiler.getTask(null, files, null, List.of("-proc:none"), null,
                files.getJavaFileObjects(Path.of("src/main/java/OneMark.java")));
            CompilationUnitTree unit = task.parse().iterator().next();
            task.analyze();
            RulesTest rules = new RulesTest(Trees.instance(task), unit);
            rules.scan(unit, null);
            rules.checkCalls();
        }
        CHECKS.end("RulesTest");
    }

    private void rule(int number, Tree tree, String what, boolean kept) {
        long line = unit.getLineMap().getLineNumber(trees.getSourcePositions().getStartPosition(unit, tree));
        CHECKS.isTrue("rule " + number + ", line " + line + ": " + what, kept);
    }

    private void barred(int number, Tree tree) {
        rule(number, tree, tree.getKind() + " is barred", false);
    }

    private boolean isIn(Class<? extends Tree> kind) {
        for (TreePath p = getCurrentPath().getParentPath(); p != null; p = p.getParentPath()) {
            if (kind.isInstance(p.getLeaf())) return true;
        }
        return false;
    }

    // ---- classes, methods and variables

    @Override
    public Void visitClass(ClassTree tree, Void none) {
        Element element = trees.getElement(getCurrentPath());
        boolean inside = isIn(ClassTree.class);
        classes.add(element.toString());
        rule(2, tree, "a class inside is static", !inside || element.getModifiers().contains(Modifier.STATIC));
        rule(2, tree, "no class stands in a method", !isIn(MethodTree.class));
        rule(2, tree, "a plain class", element.getKind() == ElementKind.CLASS && tree.getExtendsClause() == null);
        long fields = tree.getMembers().stream().filter(m -> m instanceof VariableTree v
            && !v.getModifiers().getFlags().contains(Modifier.STATIC)).count();
        rule(11, tree, fields + " fields", fields <= MOST_FIELDS);
        rule(5, tree, "no initialiser block", tree.getMembers().stream().noneMatch(m -> m.getKind() == Tree.Kind.BLOCK));
        return super.visitClass(tree, none);
    }

    @Override
    public Void visitMethod(MethodTree tree, Void none) {
        String name = nameOf(trees.getElement(getCurrentPath()));
        calls.putIfAbsent(name, new TreeSet<>());
        if (tree.getModifiers().getFlags().containsAll(Set.of(Modifier.PRIVATE, Modifier.STATIC))) privateStatic.add(name);
        SourcePositions places = trees.getSourcePositions();
        long lines = 1 + unit.getLineMap().getLineNumber(places.getEndPosition(unit, tree))
            - unit.getLineMap().getLineNumber(Math.max(0, places.getStartPosition(unit, tree)));
        rule(11, tree, name + " has " + lines + " lines", lines <= MOST_LINES);
        rule(11, tree, name + " takes too many", tree.getParameters().size() <= MOST_PARAMETERS);
        rule(6, tree, name + " tells throws", tree.getThrows().isEmpty());
        rule(6, tree, name, !name.matches(".*[.](equals|hashCode|toString)"));
        if (tree.getReturnType() != null) checkType(tree, tree.getReturnType().toString());
        return super.visitMethod(tree, none);
    }

    @Override
    public Void visitVariable(VariableTree tree, Void none) {
        Set<Modifier> flags = tree.getModifiers().getFlags();
        if (tree.getType() != null) checkType(tree, tree.getType().toString());
        rule(3, tree, "a told type", tree.getType() != null);
        if (flags.contains(Modifier.STATIC)) {
            Object value = ((VariableElement) trees.getElement(getCurrentPath())).getConstantValue();
            rule(5, tree, "a static field is a constant", flags.contains(Modifier.FINAL) && value != null);
        }
        return super.visitVariable(tree, none);
    }

    private void checkType(Tree tree, String type) {
        Element top = trees.getElement(new TreePath(new TreePath(unit), unit.getTypeDecls().get(0)));
        boolean own = top.getEnclosedElements().stream().anyMatch(e -> e.getKind() == ElementKind.CLASS
            && e.getSimpleName().contentEquals(type));
        rule(3, tree, "type " + type, own || TYPES.contains(type));
    }

    // ---- what stands in methods

    @Override
    public Void visitMethodInvocation(MethodInvocationTree tree, Void none) {
        Element called = trees.getElement(new TreePath(getCurrentPath(), tree.getMethodSelect()));
        String name = nameOf(called);
        if (name.startsWith("OneMark")) {
            calls.computeIfAbsent(caller(), k -> new TreeSet<>()).add(name);
        } else {
            rule(4, tree, "the library's " + name, LIBRARY.contains(name));
        }
        return super.visitMethodInvocation(tree, none);
    }

    private String caller() {
        for (TreePath p = getCurrentPath(); p != null; p = p.getParentPath()) {
            if (p.getLeaf() instanceof MethodTree) return nameOf(trees.getElement(p));
        }
        return "a field";
    }

    private static String nameOf(Element method) {
        ExecutableElement executable = (ExecutableElement) method;
        Element owner = executable.getEnclosingElement();
        String name = owner.toString();
        return (name.startsWith("java.lang.") ? name.substring(10) : name) + "." + executable.getSimpleName();
    }

    @Override
    public Void visitNewClass(NewClassTree tree, Void none) {
        rule(2, tree, "no class without a name", tree.getClassBody() == null);
        rule(12, tree, "calls make no objects", !isIn(MethodTree.class));
        return super.visitNewClass(tree, none);
    }

    @Override
    public Void visitNewArray(NewArrayTree tree, Void none) {
        rule(12, tree, "calls make no arrays", !isIn(MethodTree.class));
        return super.visitNewArray(tree, none);
    }

    @Override
    public Void visitTypeCast(TypeCastTree tree, Void none) {
        rule(6, tree, "a cast of numbers alone", TYPES.contains(tree.getType().toString()));
        return super.visitTypeCast(tree, none);
    }

    @Override
    public Void visitBinary(BinaryTree tree, Void none) {
        rule(10, tree, "texts are not joined by +", tree.getKind() != Tree.Kind.PLUS || isNumber(tree.getLeftOperand())
            && isNumber(tree.getRightOperand()));
        boolean divides = tree.getKind() == Tree.Kind.DIVIDE || tree.getKind() == Tree.Kind.REMAINDER;
        if (divides) checkDivisor(tree, tree.getRightOperand());
        return super.visitBinary(tree, none);
    }

    @Override
    public Void visitCompoundAssignment(CompoundAssignmentTree tree, Void none) {
        rule(10, tree, "texts are not joined by +=", isNumber(tree.getVariable()));
        boolean divides = tree.getKind() == Tree.Kind.DIVIDE_ASSIGNMENT || tree.getKind() == Tree.Kind.REMAINDER_ASSIGNMENT;
        if (divides) checkDivisor(tree, tree.getExpression());
        return super.visitCompoundAssignment(tree, none);
    }

    /** A divisor is a name that was compared in its own method. */
    private void checkDivisor(Tree tree, ExpressionTree divisor) {
        TreePath method = getCurrentPath();
        while (!(method.getLeaf() instanceof MethodTree)) method = method.getParentPath();
        String text = method.getLeaf().toString();
        rule(7, tree, divisor + " is looked at before it divides",
            text.contains(divisor + " > 1") || text.contains(divisor + " < 2"));
    }

    private boolean isNumber(ExpressionTree tree) {
        return trees.getTypeMirror(new TreePath(getCurrentPath(), tree)).getKind().isPrimitive();
    }

    @Override
    public Void visitLiteral(LiteralTree tree, Void none) {
        rule(6, tree, "no null", tree.getValue() != null);
        boolean plain = !(tree.getValue() instanceof String s) || s.chars().allMatch(c -> c >= 1 && c <= 127);
        rule(4, tree, "signs of a text", plain);
        return super.visitLiteral(tree, none);
    }

    // ---- loops

    @Override
    public Void visitForLoop(ForLoopTree tree, Void none) {
        boolean counts = tree.getInitializer().size() == 1 && tree.getUpdate().size() == 1 && tree.getCondition() != null;
        rule(9, tree, "a counter against a bound", counts);
        return super.visitForLoop(tree, none);
    }

    @Override
    public Void visitWhileLoop(WhileLoopTree tree, Void none) {
        String condition = tree.getCondition().toString();
        boolean counts = condition.contains("cursor < length") && tree.getStatement().toString().contains("cursor++");
        rule(9, tree, "a while goes on in the text", counts);
        return super.visitWhileLoop(tree, none);
    }

    @Override
    public Void visitDoWhileLoop(DoWhileLoopTree tree, Void none) {
        barred(9, tree);
        return null;
    }

    // ---- what is barred

    @Override
    public Void visitImport(ImportTree tree, Void none) {
        barred(4, tree);
        return null;
    }

    @Override
    public Void visitPackage(PackageTree tree, Void none) {
        barred(1, tree);
        return null;
    }

    @Override
    public Void visitLambdaExpression(LambdaExpressionTree tree, Void none) {
        barred(2, tree);
        return null;
    }

    @Override
    public Void visitMemberReference(MemberReferenceTree tree, Void none) {
        barred(2, tree);
        return null;
    }

    @Override
    public Void visitThrow(ThrowTree tree, Void none) {
        barred(6, tree);
        return null;
    }

    @Override
    public Void visitTry(TryTree tree, Void none) {
        barred(6, tree);
        return null;
    }

    @Override
    public Void visitCatch(CatchTree tree, Void none) {
        barred(6, tree);
        return null;
    }

    @Override
    public Void visitSynchronized(SynchronizedTree tree, Void none) {
        barred(6, tree);
        return null;
    }

    @Override
    public Void visitAssert(AssertTree tree, Void none) {
        barred(6, tree);
        return null;
    }

    @Override
    public Void visitInstanceOf(InstanceOfTree tree, Void none) {
        barred(6, tree);
        return null;
    }

    // ---- how deep calls go

    private void checkCalls() {
        CHECKS.isTrue("rule 11: " + classes.size() + " classes", classes.size() <= MOST_CLASSES);
        CHECKS.isTrue("all methods are seen: " + calls.size(), calls.size() > 100);
        for (String method : calls.keySet()) {
            boolean again = reached(method).contains(method);
            CHECKS.isTrue("rule 8: recursion in " + method, again == RECURSIVE.contains(method));
            if (again) CHECKS.isTrue("rule 8: private and static: " + method, privateStatic.contains(method));
            int deep = depth(method, new HashMap<>());
            CHECKS.isTrue("rule 11: " + method + " goes " + deep + " deep", deep <= MOST_DEEP);
        }
    }

    private Set<String> reached(String from) {
        Set<String> seen = new HashSet<>();
        List<String> open = new ArrayList<>(calls.getOrDefault(from, Set.of()));
        while (!open.isEmpty()) {
            String method = open.remove(open.size() - 1);
            if (seen.add(method)) open.addAll(calls.getOrDefault(method, Set.of()));
        }
        return seen;
    }

    /** How many methods stand open at once, a method that calls itself but once. */
    private int depth(String method, Map<String, Integer> known) {
        Integer had = known.get(method);
        if (had != null) return had;
        known.put(method, 0);
        int deepest = 0;
        for (String called : calls.getOrDefault(method, Set.of())) deepest = Math.max(deepest, depth(called, known));
        known.put(method, 1 + deepest);
        return 1 + deepest;
    }
}
