import com.sun.source.tree.AssertTree;
import com.sun.source.tree.BlockTree;
import com.sun.source.tree.ClassTree;
import com.sun.source.tree.CompilationUnitTree;
import com.sun.source.tree.DoWhileLoopTree;
import com.sun.source.tree.ExpressionTree;
import com.sun.source.tree.ForLoopTree;
import com.sun.source.tree.LambdaExpressionTree;
import com.sun.source.tree.LiteralTree;
import com.sun.source.tree.MemberReferenceTree;
import com.sun.source.tree.MethodInvocationTree;
import com.sun.source.tree.MethodTree;
import com.sun.source.tree.NewArrayTree;
import com.sun.source.tree.NewClassTree;
import com.sun.source.tree.SynchronizedTree;
import com.sun.source.tree.ThrowTree;
import com.sun.source.tree.Tree;
import com.sun.source.tree.TryTree;
import com.sun.source.tree.VariableTree;
import com.sun.source.tree.WhileLoopTree;
import com.sun.source.util.JavacTask;
import com.sun.source.util.TreePath;
import com.sun.source.util.TreePathScanner;
import com.sun.source.util.Trees;
import java.io.IOException;
import java.nio.file.Path;
import java.util.HashSet;
import java.util.List;
import java.util.Map;
import java.util.Set;
import java.util.TreeMap;
import java.util.TreeSet;
import javax.lang.model.element.Element;
import javax.lang.model.element.ElementKind;
import javax.lang.model.element.Modifier;
import javax.lang.model.element.VariableElement;
import javax.tools.JavaCompiler;
import javax.tools.StandardJavaFileManager;
import javax.tools.ToolProvider;

/**
 * The rules of ../shared/LANGUAGE.md that can be read off the program's text. Where the program uses less than a rule
 * leaves (no text, no exception, no object made after the constructor), this holds it to the less.
 */
public final class LanguageTest extends TreePathScanner<Void, Void> {
    private static final Path PROGRAM = Path.of("src/main/java/PhaseBook.java");
    private static final Set<String> TYPES = Set.of("int", "boolean", "int[]", "int[][]");
    private static final Set<String> LIBRARY = Set.of("java.lang.Math.min", "java.lang.Math.max", "java.lang.Math.abs",
        "java.lang.Math.floorMod", "java.lang.System.arraycopy", "java.lang.Object.<init>");
    private static final int MOST_CLASSES = 12;
    private static final int MOST_FIELDS = 20;
    private static final int MOST_PARAMETERS = 7;
    private static final int MOST_LINES = 60;
    private static final int MOST_DEEP = 8;

    private final CompilationUnitTree unit;
    private final Trees trees;
    private final Map<String, Set<String>> callees = new TreeMap<>();
    private int classes = 0;

    private LanguageTest(CompilationUnitTree unit, Trees trees) {
        this.unit = unit;
        this.trees = trees;
    }

    public static void main(String[] args) throws IOException {
        JavaCompiler compiler = ToolProvider.getSystemJavaCompiler();
        try (StandardJavaFileManager files = compiler.getStandardFileManager(null, null, null)) {
            JavacTask task = (JavacTask) compiler.getTask(null, files, null, List.of("--release", "17", "-proc:none"),
                null, files.getJavaFileObjects(PROGRAM));
            CompilationUnitTree unit = task.parse().iterator().next();
            task.analyze();
            LanguageTest test = new LanguageTest(unit, Trees.instance(task));
            test.scan(unit, null);
            test.checkWhole();
        }
        Check.end("LanguageTest");
    }

    private void checkWhole() {
        Check.due("no package line", unit.getPackage() == null, true);
        Check.due("imports", unit.getImports().size(), 0);
        Check.due("classes in one file that has one outside: " + unit.getTypeDecls().size(),
            unit.getTypeDecls().size() == 1 && classes <= MOST_CLASSES, true);
        Check.due("calls were seen", callees.isEmpty(), false);
        for (String method : callees.keySet()) {
            int depth = depthFrom(method, new HashSet<>());
            Check.due("rules 8 and 11: calls from " + method + " go " + depth + " deep", depth <= MOST_DEEP, true);
        }
    }

    /** How many methods stand open at once at most; far too many if one of them calls itself by and by. */
    private int depthFrom(String method, Set<String> open) {
        if (!open.add(method)) {
            return 1000;
        }
        int deepest = 0;
        for (String callee : callees.getOrDefault(method, Set.of())) {
            deepest = Math.max(deepest, depthFrom(callee, open));
        }
        open.remove(method);
        return deepest + 1;
    }

    private String at(Tree tree) {
        long start = trees.getSourcePositions().getStartPosition(unit, tree);
        return " in line " + unit.getLineMap().getLineNumber(start);
    }

    private void isOutside(String rule, Tree tree) {
        Check.due(rule + at(tree), true, false);
    }

    private static String nameOf(Element method) {
        return method.getEnclosingElement() + "." + method.getSimpleName();
    }

    /** The method that this stands in; a field's initialiser is a part of the constructor. */
    private String here() {
        for (TreePath path = getCurrentPath(); path != null; path = path.getParentPath()) {
            if (path.getLeaf() instanceof MethodTree) {
                return nameOf(trees.getElement(path));
            }
            if (path.getLeaf() instanceof ClassTree) {
                return trees.getElement(path) + ".<init>";
            }
        }
        return "";
    }

    private void checkCall(Tree tree) {
        Element called = trees.getElement(getCurrentPath());
        String name = nameOf(called);
        callees.computeIfAbsent(here(), m -> new TreeSet<>()).add(name);
        Check.due("rule 4: " + name + at(tree), name.startsWith("PhaseBook.") || LIBRARY.contains(name), true);
    }

    private void checkMakingHere(Tree tree) {
        Check.due("rule 12: only a constructor makes something, not " + here() + at(tree),
            here().endsWith(".<init>"), true);
    }

    private void checkCondition(ExpressionTree condition, Tree loop) {
        boolean forEver = condition == null || condition.toString().equals("(true)")
            || condition.toString().equals("true");
        Check.due("rule 9: the loop has an end" + at(loop), forEver, false);
    }

    @Override
    public Void visitClass(ClassTree tree, Void none) {
        classes++;
        Element element = trees.getElement(getCurrentPath());
        boolean inside = element.getEnclosingElement().getKind().isClass();
        Check.due("rule 2: a class inside is static and private" + at(tree),
            !inside || element.getModifiers().containsAll(Set.of(Modifier.STATIC, Modifier.PRIVATE)), true);
        long fields = element.getEnclosedElements().stream()
            .filter(e -> e.getKind() == ElementKind.FIELD && !e.getModifiers().contains(Modifier.STATIC)).count();
        Check.due("rule 11: fields of " + element, fields <= MOST_FIELDS, true);
        return super.visitClass(tree, none);
    }

    @Override
    public Void visitMethod(MethodTree tree, Void none) {
        Check.due("rule 11: parameters" + at(tree), tree.getParameters().size() <= MOST_PARAMETERS, true);
        var positions = trees.getSourcePositions();
        long first = unit.getLineMap().getLineNumber(Math.max(0, positions.getStartPosition(unit, tree)));
        long last = unit.getLineMap().getLineNumber(Math.max(0, positions.getEndPosition(unit, tree)));
        Check.due("rule 11: lines" + at(tree), last - first < MOST_LINES, true);
        return super.visitMethod(tree, none);
    }

    @Override
    public Void visitVariable(VariableTree tree, Void none) {
        VariableElement variable = (VariableElement) trees.getElement(getCurrentPath());
        String type = variable.asType().toString();
        Check.due("rule 3: type " + type + at(tree), TYPES.contains(type) || type.startsWith("PhaseBook."), true);
        if (variable.getModifiers().contains(Modifier.STATIC)) {
            Check.due("rule 5: a static field is a constant" + at(tree), variable.getConstantValue() != null, true);
        }
        return super.visitVariable(tree, none);
    }

    @Override
    public Void visitMethodInvocation(MethodInvocationTree tree, Void none) {
        checkCall(tree);
        return super.visitMethodInvocation(tree, none);
    }

    @Override
    public Void visitNewClass(NewClassTree tree, Void none) {
        checkCall(tree);
        checkMakingHere(tree);
        return super.visitNewClass(tree, none);
    }

    @Override
    public Void visitNewArray(NewArrayTree tree, Void none) {
        checkMakingHere(tree);
        return super.visitNewArray(tree, none);
    }

    @Override
    public Void visitWhileLoop(WhileLoopTree tree, Void none) {
        checkCondition(tree.getCondition(), tree);
        return super.visitWhileLoop(tree, none);
    }

    @Override
    public Void visitDoWhileLoop(DoWhileLoopTree tree, Void none) {
        checkCondition(tree.getCondition(), tree);
        return super.visitDoWhileLoop(tree, none);
    }

    @Override
    public Void visitForLoop(ForLoopTree tree, Void none) {
        checkCondition(tree.getCondition(), tree);
        return super.visitForLoop(tree, none);
    }

    @Override
    public Void visitBlock(BlockTree tree, Void none) {
        boolean initialiser = getCurrentPath().getParentPath().getLeaf() instanceof ClassTree;
        Check.due("rule 5: no initialiser block" + at(tree), initialiser, false);
        return super.visitBlock(tree, none);
    }

    @Override
    public Void visitLiteral(LiteralTree tree, Void none) {
        Check.due("rule 3: no text" + at(tree), tree.getKind() == Tree.Kind.STRING_LITERAL, false);
        return super.visitLiteral(tree, none);
    }

    @Override
    public Void visitLambdaExpression(LambdaExpressionTree tree, Void none) {
        isOutside("rule 2: no lambda", tree);
        return null;
    }

    @Override
    public Void visitMemberReference(MemberReferenceTree tree, Void none) {
        isOutside("rule 2: no method reference", tree);
        return null;
    }

    @Override
    public Void visitThrow(ThrowTree tree, Void none) {
        isOutside("rule 6: the document asks for no exception", tree);
        return null;
    }

    @Override
    public Void visitTry(TryTree tree, Void none) {
        isOutside("rule 6: nothing throws, so nothing is caught", tree);
        return null;
    }

    @Override
    public Void visitSynchronized(SynchronizedTree tree, Void none) {
        isOutside("rule 6: no synchronized", tree);
        return null;
    }

    @Override
    public Void visitAssert(AssertTree tree, Void none) {
        isOutside("rule 6: no assert", tree);
        return null;
    }
}
