import com.sun.source.tree.*;
import com.sun.source.util.JavacTask;
import com.sun.source.util.TreePath;
import com.sun.source.util.TreePathScanner;
import com.sun.source.util.Trees;
import java.io.IOException;
import java.nio.file.Path;
import java.util.ArrayList;
import java.util.LinkedHashMap;
import java.util.LinkedHashSet;
import java.util.List;
import java.util.Map;
import java.util.Set;
import javax.lang.model.element.Element;
import javax.lang.model.element.ElementKind;
import javax.lang.model.element.ExecutableElement;
import javax.lang.model.element.Modifier;
import javax.lang.model.type.ArrayType;
import javax.lang.model.type.TypeKind;
import javax.lang.model.type.TypeMirror;
import javax.tools.JavaCompiler;
import javax.tools.StandardJavaFileManager;
import javax.tools.ToolProvider;

/** The rules of ../shared/LANGUAGE.md, read from the class's tree as the compiler sees it. Run from the project's root. */
public final class RulesTest extends TreePathScanner<Void, Void> {
    private static final Set<String> LIBRARY = Set.of("java.lang.String.length", "java.lang.String.charAt",
            "java.lang.Integer.bitCount", "java.lang.Math.max", "java.lang.Math.min", "java.lang.Math.abs",
            "java.lang.System.arraycopy", "java.util.Arrays.fill", "java.lang.Object.<init>");
    private static final Set<Tree.Kind> FORBIDDEN = Set.of(Tree.Kind.THROW, Tree.Kind.TRY, Tree.Kind.CATCH,
            Tree.Kind.SYNCHRONIZED, Tree.Kind.ASSERT, Tree.Kind.LAMBDA_EXPRESSION, Tree.Kind.MEMBER_REFERENCE,
            Tree.Kind.SWITCH_EXPRESSION, Tree.Kind.BINDING_PATTERN, Tree.Kind.ANNOTATION, Tree.Kind.PACKAGE);
    private static final int DEEPEST = 8;

    private final Trees trees;
    private final CompilationUnitTree unit;
    private final Map<Element, Set<Element>> calls = new LinkedHashMap<>();
    private Element caller;
    private int loops;

    private RulesTest(Trees trees, CompilationUnitTree unit) {
        this.trees = trees;
        this.unit = unit;
    }

    public static void main(String[] args) throws IOException {
        JavaCompiler compiler = ToolProvider.getSystemJavaCompiler();
        try (StandardJavaFileManager files = compiler.getStandardFileManager(null, null, null)) {
            JavacTask task = (JavacTask) compiler.getTask(null, files, null, List.of("-proc:none"), null,
                    files.getJavaFileObjects(Path.of("src", "main", "java", "MillOfDistances.java")));
            List<CompilationUnitTree> units = new ArrayList<>();
            task.parse().forEach(units::add);
            task.analyze();
            Due.due("one file", units.size(), 1);
            RulesTest rules = new RulesTest(Trees.instance(task), units.get(0));
            rules.scan(units.get(0), null);
            rules.depths();
        }
        Due.end();
    }

    private void holds(String what, boolean is) {
        Due.due(what, is ? 1 : 0, 1);
    }

    private long lineOf(long position) {
        return unit.getLineMap().getLineNumber(position);
    }

    private String at(Tree tree) {
        return " in line " + lineOf(trees.getSourcePositions().getStartPosition(unit, tree));
    }

    private boolean isOwn(Element e) {
        TreePath path = e == null ? null : trees.getPath(e);
        return path != null && path.getCompilationUnit() == unit;
    }

    private TypeMirror typeOf(Tree tree) {
        return trees.getTypeMirror(new TreePath(getCurrentPath(), tree));
    }

    private static boolean isText(TypeMirror type) {
        return type != null && (type.toString().equals("java.lang.String") || type.toString().equals("java.lang.Integer"));
    }

    // ---- rules 2, 6, 10: what may not stand there ----

    @Override
    public Void scan(Tree tree, Void none) {
        if (tree != null) {
            holds(tree.getKind() + at(tree), !FORBIDDEN.contains(tree.getKind()));
        }
        return super.scan(tree, none);
    }

    @Override
    public Void visitBinary(BinaryTree tree, Void none) {
        boolean texts = isText(typeOf(tree.getLeftOperand())) || isText(typeOf(tree.getRightOperand()));
        holds("no + and no == of texts" + at(tree), !texts);
        return super.visitBinary(tree, none);
    }

    @Override
    public Void visitCompoundAssignment(CompoundAssignmentTree tree, Void none) {
        holds("no += of texts" + at(tree), !isText(typeOf(tree.getVariable())));
        isNoConstantChanged(tree.getVariable());
        return super.visitCompoundAssignment(tree, none);
    }

    @Override
    public Void visitTypeCast(TypeCastTree tree, Void none) {
        holds("a cast of numbers" + at(tree), typeOf(tree.getType()).getKind().isPrimitive()
                && typeOf(tree.getExpression()).getKind().isPrimitive());
        return super.visitTypeCast(tree, none);
    }

    // ---- rules 3 and 5: types, constants ----

    private boolean mayBe(TypeMirror type) {
        if (type.getKind().isPrimitive() || type.getKind() == TypeKind.VOID) {
            return type.getKind() != TypeKind.DOUBLE && type.getKind() != TypeKind.FLOAT;
        }
        if (type.getKind() == TypeKind.ARRAY) {
            TypeMirror of = ((ArrayType) type).getComponentType();
            return of.getKind() != TypeKind.ARRAY && mayBe(of);
        }
        return type.toString().equals("java.lang.String") || type.toString().startsWith("MillOfDistances.");
    }

    @Override
    public Void visitVariable(VariableTree tree, Void none) {
        Element e = trees.getElement(getCurrentPath());
        holds("the type of " + tree.getName() + at(tree), mayBe(e.asType()));
        if (e.getModifiers().contains(Modifier.STATIC)) {
            boolean isWhole = tree.getInitializer() != null && (e.asType().getKind().isPrimitive()
                    || (tree.getInitializer() instanceof NewArrayTree
                    && ((NewArrayTree) tree.getInitializer()).getInitializers() != null));
            holds("a constant, written out: " + tree.getName(), e.getModifiers().contains(Modifier.FINAL) && isWhole);
        }
        return super.visitVariable(tree, none);
    }

    private void isNoConstantChanged(ExpressionTree target) {
        if (target instanceof ArrayAccessTree) {
            ExpressionTree array = ((ArrayAccessTree) target).getExpression();
            Element e = trees.getElement(new TreePath(new TreePath(getCurrentPath(), target), array));
            holds("no constant is changed" + at(target), e != null && !e.getModifiers().contains(Modifier.STATIC));
        }
    }

    @Override
    public Void visitAssignment(AssignmentTree tree, Void none) {
        isNoConstantChanged(tree.getVariable());
        return super.visitAssignment(tree, none);
    }

    @Override
    public Void visitUnary(UnaryTree tree, Void none) {
        isNoConstantChanged(tree.getExpression());
        return super.visitUnary(tree, none);
    }

    // ---- rules 9 and 12: loops, and what is made in them ----

    private void looped(String kind, ExpressionTree condition, Tree tree, Runnable inside) {
        String told = condition == null ? "true" : condition.toString().replaceAll("[()\\s]", "");
        holds(kind + " has an end" + at(tree), !told.equals("true"));
        loops++;
        inside.run();
        loops--;
    }

    @Override
    public Void visitForLoop(ForLoopTree tree, Void none) {
        looped("for", tree.getCondition(), tree, () -> super.visitForLoop(tree, none));
        holds("for goes on" + at(tree), !tree.getUpdate().isEmpty());
        return null;
    }

    @Override
    public Void visitWhileLoop(WhileLoopTree tree, Void none) {
        looped("while", tree.getCondition(), tree, () -> super.visitWhileLoop(tree, none));
        return null;
    }

    @Override
    public Void visitDoWhileLoop(DoWhileLoopTree tree, Void none) {
        looped("do", tree.getCondition(), tree, () -> super.visitDoWhileLoop(tree, none));
        return null;
    }

    /** An object holds all its rows from its first moment on: no call makes anything. */
    private void isMadeByConstructors(Tree tree) {
        boolean inMethod = caller != null && caller.getKind() != ElementKind.CONSTRUCTOR;
        holds("nothing is made by a call" + at(tree), !inMethod);
    }

    @Override
    public Void visitNewArray(NewArrayTree tree, Void none) {
        isMadeByConstructors(tree);
        return super.visitNewArray(tree, none);
    }

    @Override
    public Void visitNewClass(NewClassTree tree, Void none) {
        isMadeByConstructors(tree);
        holds("no class without a name" + at(tree), tree.getClassBody() == null);
        holds("of its own classes" + at(tree), isOwn(trees.getElement(getCurrentPath())) || isDefault(tree));
        return super.visitNewClass(tree, none);
    }

    private boolean isDefault(NewClassTree tree) {
        Element e = trees.getElement(getCurrentPath());
        return tree.getArguments().isEmpty() && e != null && isOwn(e.getEnclosingElement());
    }

    // ---- rules 1, 2, 4, 8, 11: classes, methods, calls ----

    @Override
    public Void visitClass(ClassTree tree, Void none) {
        Element e = trees.getElement(getCurrentPath());
        boolean isInside = e.getEnclosingElement().getKind().isClass();
        holds(tree.getSimpleName() + " stands in the file or is static in the class", isInside
                ? e.getModifiers().contains(Modifier.STATIC) : tree.getSimpleName().contentEquals("MillOfDistances"));
        Element before = caller;
        caller = null;
        super.visitClass(tree, none);
        caller = before;
        return null;
    }

    @Override
    public Void visitBlock(BlockTree tree, Void none) {
        holds("no block outside of a method" + at(tree), caller != null);
        return super.visitBlock(tree, none);
    }

    @Override
    public Void visitMethod(MethodTree tree, Void none) {
        ExecutableElement e = (ExecutableElement) trees.getElement(getCurrentPath());
        long first = trees.getSourcePositions().getStartPosition(unit, tree);
        long last = trees.getSourcePositions().getEndPosition(unit, tree);
        holds("some sixty lines: " + tree.getName(), last < 0 || lineOf(last) - lineOf(first) <= 60);
        holds("seven parameters at most: " + tree.getName(), tree.getParameters().size() <= 7);
        holds("the type of " + tree.getName(), mayBe(e.getReturnType()));
        caller = e;
        calls.put(e, new LinkedHashSet<>());
        super.visitMethod(tree, none);
        caller = null;
        return null;
    }

    @Override
    public Void visitMethodInvocation(MethodInvocationTree tree, Void none) {
        Element e = trees.getElement(getCurrentPath());
        if (caller != null && isOwn(e)) {
            calls.get(caller).add(e);
        }
        String name = e.getEnclosingElement() + "." + e.getSimpleName();
        holds("the library's " + name + at(tree), isOwn(e) || LIBRARY.contains(name) || isSuper(tree));
        if (caller != null && !isOwn(e) && LIBRARY.contains(name)) {
            calls.get(caller).add(e);
        }
        return super.visitMethodInvocation(tree, none);
    }

    private static boolean isSuper(MethodInvocationTree tree) {
        return tree.getMethodSelect().toString().equals("super");
    }

    /** How many calls stand open at most, this one and the library's too; a private static one may call itself. */
    private int depth(Element method, List<Element> open) {
        int deepest = 0;
        for (Element called : calls.getOrDefault(method, Set.of())) {
            if (called == method) {
                holds("recursion, private and static: " + method,
                        method.getModifiers().containsAll(Set.of(Modifier.PRIVATE, Modifier.STATIC)));
            } else if (open.contains(called)) {
                holds("methods that call one another: " + open + " " + called, false);
            } else {
                List<Element> more = new ArrayList<>(open);
                more.add(called);
                deepest = Math.max(deepest, depth(called, more));
            }
        }
        return deepest + 1;
    }

    private void depths() {
        int most = 0;
        Set<Element> used = new LinkedHashSet<>();
        for (Set<Element> called : calls.values()) {
            used.addAll(called);
        }
        for (Element method : calls.keySet()) {
            int depth = depth(method, List.of(method));
            most = Math.max(most, depth);
            holds("calls go eight deep at most: " + method + " goes " + depth, depth <= DEEPEST);
            boolean isFace = method.getModifiers().contains(Modifier.PUBLIC);
            holds("somebody calls " + method, isFace || used.contains(method)
                    || method.getKind() == ElementKind.CONSTRUCTOR);
        }
        System.out.println("the deepest calls: " + most);
        holds("the face was seen", calls.size() > 41);
    }
}
