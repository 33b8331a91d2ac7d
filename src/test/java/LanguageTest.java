import com.sun.source.tree.ArrayTypeTree;
import com.sun.source.tree.AssertTree;
import com.sun.source.tree.AssignmentTree;
import com.sun.source.tree.BinaryTree;
import com.sun.source.tree.BlockTree;
import com.sun.source.tree.ClassTree;
import com.sun.source.tree.CompilationUnitTree;
import com.sun.source.tree.DoWhileLoopTree;
import com.sun.source.tree.ExpressionTree;
import com.sun.source.tree.ForLoopTree;
import com.sun.source.tree.IdentifierTree;
import com.sun.source.tree.LambdaExpressionTree;
import com.sun.source.tree.LiteralTree;
import com.sun.source.tree.MemberReferenceTree;
import com.sun.source.tree.MethodInvocationTree;
import com.sun.source.tree.MethodTree;
import com.sun.source.tree.NewArrayTree;
import com.sun.source.tree.NewClassTree;
import com.sun.source.tree.SynchronizedTree;
import com.sun.source.tree.ThrowTree;
import com.sun.source.tree.Tree;
import com.sun.source.tree.TryTree;
import com.sun.source.tree.TypeCastTree;
import com.sun.source.tree.VariableTree;
import com.sun.source.tree.WhileLoopTree;
import com.sun.source.util.JavacTask;
import com.sun.source.util.TreePath;
import com.sun.source.util.TreePathScanner;
import com.sun.source.util.Trees;
import java.io.IOException;
import java.nio.file.Path;
import java.util.Collection;
import java.util.HashMap;
import java.util.HashSet;
import java.util.List;
import java.util.Map;
import java.util.Set;
import javax.lang.model.element.Element;
import javax.lang.model.element.ElementKind;
import javax.lang.model.element.Modifier;
import javax.lang.model.type.ArrayType;
import javax.lang.model.type.DeclaredType;
import javax.lang.model.type.TypeKind;
import javax.lang.model.type.TypeMirror;
import javax.tools.JavaCompiler;
import javax.tools.StandardJavaFileManager;
import javax.tools.ToolProvider;

/**
 * Rules of LANGUAGE.md, or parts of them, that are easily told from the source, by their numbers. The
 * class needs less than they leave it, and is held to that: no try, no text but in exceptions, no
 * recursion.
 */
public final class LanguageTest extends TreePathScanner<Void, Void> {
    private static final Check CHECK = new Check();
    private static final Path SOURCE = Path.of("src", "main", "java", "DecimalDesk.java");

    private static final Set<String> LIBRARY = Set.of("java.lang.Integer.compare", "java.lang.Math.abs",
            "java.lang.Math.max", "java.lang.Math.min", "java.lang.Math.floorDiv", "java.lang.Math.floorMod",
            "java.lang.System.arraycopy");
    private static final Set<String> EXCEPTIONS = Set.of("IllegalStateException", "IllegalArgumentException",
            "IndexOutOfBoundsException", "ArithmeticException", "UnsupportedOperationException", "RuntimeException");
    private static final Set<TypeKind> PLAIN = Set.of(TypeKind.INT, TypeKind.LONG, TypeKind.CHAR, TypeKind.BOOLEAN,
            TypeKind.BYTE, TypeKind.SHORT, TypeKind.VOID);

    private static final int MOST_PARAMETERS = 7;
    private static final int MOST_LINES = 60;
    private static final int MOST_CLASSES = 12;
    private static final int MOST_FIELDS = 20;
    private static final int DEEPEST_CALL = 8;

    private final Trees trees;
    private final CompilationUnitTree unit;
    private final Map<Element, Set<Element>> calls = new HashMap<>();
    private int classes;

    private LanguageTest(Trees trees, CompilationUnitTree unit) {
        this.trees = trees;
        this.unit = unit;
    }

    public static void main(String[] args) throws IOException {
        JavaCompiler compiler = ToolProvider.getSystemJavaCompiler();
        StandardJavaFileManager files = compiler.getStandardFileManager(null, null, null);
        JavacTask task = (JavacTask) compiler.getTask(null, files, null, List.of("-proc:none"), null,
                files.getJavaFileObjects(SOURCE));
        CompilationUnitTree unit = task.parse().iterator().next();
        task.analyze();
        LanguageTest test = new LanguageTest(Trees.instance(task), unit);
        test.scan(unit, null);
        test.whole();
        CHECK.finish();
    }

    private void rule(int number, String what, Tree where, boolean kept) {
        CHECK.due("rule " + number + ", line " + line(start(where)) + ", " + what, kept, true);
    }

    private void never(int number, String what, Tree where) {
        rule(number, "no " + what, where, false);
    }

    private long line(long position) {
        return unit.getLineMap().getLineNumber(Math.max(0, position));
    }

    private long start(Tree tree) {
        return trees.getSourcePositions().getStartPosition(unit, tree);
    }

    private long lines(Tree tree) {
        return line(trees.getSourcePositions().getEndPosition(unit, tree)) - line(start(tree)) + 1;
    }

    private void whole() {
        rule(1, "no package", unit, unit.getPackageName() == null);
        rule(1, "one class", unit, unit.getTypeDecls().size() == 1);
        rule(4, "no import", unit, unit.getImports().isEmpty());
        rule(11, "so many classes", unit, classes <= MOST_CLASSES);
        for (Element method : calls.keySet()) {
            int depth = depth(method, new HashSet<>());
            CHECK.due("rule 8 and 11, " + method + " goes " + depth + " calls deep", depth <= DEEPEST_CALL, true);
        }
    }

    /** How deep the calls from a method go, itself counted; far too deep if it comes back to itself. */
    private int depth(Element method, Set<Element> open) {
        if (!open.add(method)) {
            return 2 * DEEPEST_CALL;
        }
        int deepest = 0;
        for (Element called : calls.getOrDefault(method, Set.of())) {
            deepest = Math.max(deepest, depth(called, open));
        }
        open.remove(method);
        return deepest + 1;
    }

    private boolean isOwn(Element element) {
        Element outer = element;
        while (outer.getEnclosingElement() != null && outer.getEnclosingElement().getKind() != ElementKind.PACKAGE) {
            outer = outer.getEnclosingElement();
        }
        return outer.getSimpleName().contentEquals("DecimalDesk");
    }

    private boolean isAllowed(TypeMirror type) {
        if (type instanceof ArrayType row) {
            return isAllowed(row.getComponentType());
        }
        return PLAIN.contains(type.getKind()) || type instanceof DeclaredType named && isOwn(named.asElement());
    }

    private static boolean isOf(TreePath path, Tree.Kind kind) {
        return path.getParentPath() != null && path.getParentPath().getLeaf().getKind() == kind;
    }

    private MethodTree method() {
        TreePath path = getCurrentPath();
        while (path != null && !(path.getLeaf() instanceof MethodTree)) {
            path = path.getParentPath();
        }
        return path == null ? null : (MethodTree) path.getLeaf();
    }

    @Override
    public Void visitClass(ClassTree tree, Void none) {
        classes++;
        Set<Modifier> flags = tree.getModifiers().getFlags();
        if (isOf(getCurrentPath(), Tree.Kind.COMPILATION_UNIT)) {
            rule(1, "a public final class", tree, flags.equals(Set.of(Modifier.PUBLIC, Modifier.FINAL)));
            names(tree);
        } else {
            rule(1, "a nested class", tree, isOf(getCurrentPath(), Tree.Kind.CLASS));
            rule(1, "private or package-visible, and static", tree, flags.contains(Modifier.STATIC)
                    && !flags.contains(Modifier.PUBLIC) && !flags.contains(Modifier.PROTECTED));
        }
        int fields = 0;
        for (Tree member : tree.getMembers()) {
            rule(5, "no static block", member, !(member instanceof BlockTree));
            fields += member instanceof VariableTree field && !isStatic(field) ? 1 : 0;
        }
        rule(11, fields + " fields", tree, fields <= MOST_FIELDS);
        return super.visitClass(tree, none);
    }

    private static void names(ClassTree face) {
        Set<String> open = new HashSet<>();
        Set<String> hidden = new HashSet<>();
        for (Tree member : face.getMembers()) {
            if (member instanceof MethodTree method) {
                boolean isPublic = method.getModifiers().getFlags().contains(Modifier.PUBLIC);
                (isPublic ? open : hidden).add(method.getName().toString());
            }
        }
        hidden.retainAll(open);
        CHECK.due("rule 1, private methods with the name of a public one", hidden, Set.of());
    }

    private static boolean isStatic(VariableTree field) {
        return field.getModifiers().getFlags().contains(Modifier.STATIC);
    }

    @Override
    public Void visitVariable(VariableTree tree, Void none) {
        rule(3, "the type of " + tree.getName(), tree, isAllowed(trees.getTypeMirror(getCurrentPath())));
        if (isOf(getCurrentPath(), Tree.Kind.CLASS) && isStatic(tree)) {
            rule(5, tree.getName() + " is final", tree, tree.getModifiers().getFlags().contains(Modifier.FINAL));
            rule(5, tree.getName() + " is written out", tree, isWrittenOut(tree));
        }
        return super.visitVariable(tree, none);
    }

    private static boolean isWrittenOut(VariableTree constant) {
        if (!(constant.getType() instanceof ArrayTypeTree)) {
            return constant.getInitializer() != null && !(constant.getInitializer() instanceof MethodInvocationTree);
        }
        return constant.getInitializer() instanceof NewArrayTree row && row.getInitializers() != null;
    }

    @Override
    public Void visitMethod(MethodTree tree, Void none) {
        rule(11, "so many parameters", tree, tree.getParameters().size() <= MOST_PARAMETERS);
        rule(11, lines(tree) + " lines", tree, lines(tree) <= MOST_LINES);
        calls.computeIfAbsent(trees.getElement(getCurrentPath()), key -> new HashSet<>());
        return super.visitMethod(tree, none);
    }

    private void call(Element called) {
        MethodTree within = method();
        if (within != null) {
            calls.computeIfAbsent(trees.getElement(trees.getPath(unit, within)), key -> new HashSet<>()).add(called);
        }
    }

    @Override
    public Void visitMethodInvocation(MethodInvocationTree tree, Void none) {
        Element called = trees.getElement(new TreePath(getCurrentPath(), tree.getMethodSelect()));
        if (isOwn(called)) {
            call(called);
        } else if (called.getKind() != ElementKind.CONSTRUCTOR) {
            String name = called.getEnclosingElement() + "." + called.getSimpleName();
            rule(4, name, tree, LIBRARY.contains(name));
        }
        return super.visitMethodInvocation(tree, none);
    }

    @Override
    public Void visitNewClass(NewClassTree tree, Void none) {
        Element made = trees.getElement(getCurrentPath());
        if (isOwn(made)) {
            call(made);
        } else {
            rule(4, "an object of the library", tree, isOf(getCurrentPath(), Tree.Kind.THROW));
        }
        return super.visitNewClass(tree, none);
    }

    @Override
    public Void visitThrow(ThrowTree tree, Void none) {
        boolean made = tree.getExpression() instanceof NewClassTree exception
                && EXCEPTIONS.contains(exception.getIdentifier().toString())
                && isWritten(exception.getArguments());
        rule(6, "throw new E() or E(\"a written text\")", tree, made);
        MethodTree within = method();
        rule(6, "not in a constructor", tree, within != null && within.getReturnType() != null);
        return super.visitThrow(tree, none);
    }

    private static boolean isWritten(Collection<? extends ExpressionTree> arguments) {
        return arguments.isEmpty() || arguments.size() == 1 && arguments.iterator().next() instanceof LiteralTree;
    }

    @Override
    public Void visitTypeCast(TypeCastTree tree, Void none) {
        rule(7, "a cast of numbers", tree, PLAIN.contains(trees.getTypeMirror(getCurrentPath()).getKind()));
        return super.visitTypeCast(tree, none);
    }

    @Override
    public Void visitBinary(BinaryTree tree, Void none) {
        rule(10, "no joined text", tree, trees.getTypeMirror(getCurrentPath()).getKind() != TypeKind.DECLARED);
        return super.visitBinary(tree, none);
    }

    private void bounded(Tree loop, ExpressionTree condition) {
        String text = condition == null ? "" : condition.toString();
        rule(9, "a bound", loop, text.contains("<") || text.contains(">"));
    }

    @Override
    public Void visitForLoop(ForLoopTree tree, Void none) {
        bounded(tree, tree.getCondition());
        return super.visitForLoop(tree, none);
    }

    @Override
    public Void visitWhileLoop(WhileLoopTree tree, Void none) {
        bounded(tree, tree.getCondition());
        return super.visitWhileLoop(tree, none);
    }

    @Override
    public Void visitDoWhileLoop(DoWhileLoopTree tree, Void none) {
        bounded(tree, tree.getCondition());
        return super.visitDoWhileLoop(tree, none);
    }

    @Override
    public Void visitIdentifier(IdentifierTree tree, Void none) {
        Element named = trees.getElement(getCurrentPath());
        if (named != null && named.getKind() == ElementKind.FIELD && named.getModifiers().contains(Modifier.STATIC)
                && isOf(getCurrentPath(), Tree.Kind.ARRAY_ACCESS)) {
            TreePath around = getCurrentPath().getParentPath().getParentPath();
            boolean isTarget = around.getLeaf() instanceof AssignmentTree change
                    && change.getVariable() == getCurrentPath().getParentPath().getLeaf();
            rule(5, named + " is not changed", tree, !isTarget);
        }
        return super.visitIdentifier(tree, none);
    }

    @Override
    public Void visitTry(TryTree tree, Void none) {
        never(6, "try", tree);
        return super.visitTry(tree, none);
    }

    @Override
    public Void visitAssert(AssertTree tree, Void none) {
        never(6, "assert", tree);
        return super.visitAssert(tree, none);
    }

    @Override
    public Void visitSynchronized(SynchronizedTree tree, Void none) {
        never(6, "synchronized", tree);
        return super.visitSynchronized(tree, none);
    }

    @Override
    public Void visitLambdaExpression(LambdaExpressionTree tree, Void none) {
        never(2, "lambda", tree);
        return super.visitLambdaExpression(tree, none);
    }

    @Override
    public Void visitMemberReference(MemberReferenceTree tree, Void none) {
        never(2, "method reference", tree);
        return super.visitMemberReference(tree, none);
    }
}
