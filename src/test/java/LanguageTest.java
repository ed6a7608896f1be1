import com.sun.source.tree.BinaryTree;
import com.sun.source.tree.BlockTree;
import com.sun.source.tree.ClassTree;
import com.sun.source.tree.CompilationUnitTree;
import com.sun.source.tree.ExpressionTree;
import com.sun.source.tree.MethodInvocationTree;
import com.sun.source.tree.MethodTree;
import com.sun.source.tree.NewClassTree;
import com.sun.source.tree.ThrowTree;
import com.sun.source.tree.Tree;
import com.sun.source.tree.TypeCastTree;
import com.sun.source.tree.VariableTree;
import com.sun.source.util.JavacTask;
import com.sun.source.util.SourcePositions;
import com.sun.source.util.TreePathScanner;
import com.sun.source.util.Trees;
import java.io.IOException;
import java.nio.file.Path;
import java.util.EnumSet;
import java.util.HashMap;
import java.util.LinkedHashSet;
import java.util.List;
import java.util.Map;
import java.util.Set;
import javax.lang.model.element.Element;
import javax.lang.model.element.ElementKind;
import javax.lang.model.element.Modifier;
import javax.lang.model.type.ArrayType;
import javax.lang.model.type.DeclaredType;
import javax.lang.model.type.TypeMirror;
import javax.tools.StandardJavaFileManager;
import javax.tools.ToolProvider;

/**
 * The rules of LANGUAGE.md that can be seen in the class's source, by their numbers. Where the class needs less than a
 * rule leaves (of the library, of try and catch), no more than it needs is let pass: who needs more, adds it here.
 * Rule 1 is FaceTest's. Runs in the project's folder, as .ci/run does.
 */
final class LanguageTest extends TreePathScanner<Void, Void> {
    private static final Path SOURCE = Path.of("src", "main", "java", "Intergreen.java");
    private static final Set<String> LIBRARY = Set.of("java.lang.Math.max(int,int)", "java.lang.Math.min(int,int)");
    private static final Set<String> THROWN = Set.of("java.lang.IllegalStateException",
        "java.lang.IllegalArgumentException", "java.lang.IndexOutOfBoundsException");
    private static final Set<Tree.Kind> NEVER = EnumSet.of(Tree.Kind.IMPORT, Tree.Kind.PACKAGE, Tree.Kind.ANNOTATION,
        Tree.Kind.LAMBDA_EXPRESSION, Tree.Kind.MEMBER_REFERENCE, Tree.Kind.SYNCHRONIZED, Tree.Kind.ASSERT,
        Tree.Kind.TRY, Tree.Kind.INSTANCE_OF);
    private static final int MOST_CLASSES = 12, MOST_FIELDS = 20, MOST_PARAMETERS = 7, MOST_LINES = 60, MOST_DEPTH = 8;

    private final Trees trees;
    private final SourcePositions positions;
    private final CompilationUnitTree unit;
    /** Which methods of the class each one calls, in the order of the source. */
    private final Map<Element, Set<Element>> calls = new HashMap<>();
    private int classes;

    private LanguageTest(Trees trees, CompilationUnitTree unit) {
        this.trees = trees;
        this.unit = unit;
        positions = trees.getSourcePositions();
    }

    public static void main(String[] args) throws IOException {
        var compiler = ToolProvider.getSystemJavaCompiler();
        try (StandardJavaFileManager files = compiler.getStandardFileManager(null, null, null)) {
            JavacTask task = (JavacTask) compiler.getTask(null, files, null, List.of("-proc:none"), null,
                files.getJavaFileObjects(SOURCE));
            CompilationUnitTree unit = task.parse().iterator().next();
            task.analyze();
            new LanguageTest(Trees.instance(task), unit).look();
        }
        Check.end();
    }

    private void look() {
        Check.same("rule 1: classes of the file beside those inside", unit.getTypeDecls().size(), 1);
        scan(unit, null);
        Check.same("rule 11: some twelve classes, there are " + classes, classes <= MOST_CLASSES, true);
        for (Element method : calls.keySet()) {
            Check.same("rules 8, 11: calls go deeper than " + MOST_DEPTH + " from " + method,
                depth(method, 1) <= MOST_DEPTH, true);
        }
    }

    /** A recursion ends here, too: it is deeper than what is let pass. */
    private int depth(Element method, int depth) {
        int deepest = depth;
        if (depth <= MOST_DEPTH) {
            for (Element called : calls.getOrDefault(method, Set.of())) {
                deepest = Math.max(deepest, depth(called, depth + 1));
            }
        }
        return deepest;
    }

    private void rule(String told, Tree tree, boolean isKept) {
        long line = unit.getLineMap().getLineNumber(positions.getStartPosition(unit, tree));
        Check.same("rule " + told + ", line " + line, isKept, true);
    }

    private Element element() {
        return trees.getElement(getCurrentPath());
    }

    /** The method or class in which the tree of now stands. */
    private Element around() {
        return trees.getElement(trees.getPath(unit, nearest()));
    }

    private Tree nearest() {
        for (Tree tree : getCurrentPath()) {
            if (tree instanceof MethodTree || tree instanceof ClassTree) {
                return tree;
            }
        }
        return unit.getTypeDecls().get(0);
    }

    private static boolean isOwn(Element owner) {
        return owner.toString().startsWith("Intergreen");
    }

    @Override
    public Void scan(Tree tree, Void none) {
        if (tree != null) {
            rule("2, 4, 6: " + tree.getKind() + " is not used", tree, !NEVER.contains(tree.getKind()));
        }
        return super.scan(tree, none);
    }

    @Override
    public Void visitClass(ClassTree tree, Void none) {
        classes++;
        Set<Modifier> flags = tree.getModifiers().getFlags();
        boolean isInside = element().getEnclosingElement().getKind().isClass();
        boolean isSeen = flags.contains(Modifier.PUBLIC) || flags.contains(Modifier.PROTECTED);
        rule("1: classes inside are static, private or package-visible", tree,
            !isInside || flags.contains(Modifier.STATIC) && !isSeen);
        int fields = 0;
        for (Tree member : tree.getMembers()) {
            if (member instanceof VariableTree field && !field.getModifiers().getFlags().contains(Modifier.STATIC)) {
                fields++;
            }
            rule("5: no static block", member, !(member instanceof BlockTree));
        }
        rule("11: some twenty fields", tree, fields <= MOST_FIELDS);
        return super.visitClass(tree, none);
    }

    @Override
    public Void visitVariable(VariableTree tree, Void none) {
        Set<Modifier> flags = tree.getModifiers().getFlags();
        rule("5: a static field is final", tree, !flags.contains(Modifier.STATIC) || flags.contains(Modifier.FINAL));
        rule("3: numbers, booleans, own classes, arrays of these", tree, isLeft(element().asType()));
        return super.visitVariable(tree, none);
    }

    private static boolean isLeft(TypeMirror type) {
        if (type instanceof ArrayType array) {
            TypeMirror element = array.getComponentType();
            boolean isOfNumbers = element instanceof ArrayType row && row.getComponentType().getKind().isPrimitive();
            return isOfNumbers || isSingle(element);
        }
        return isSingle(type);
    }

    private static boolean isSingle(TypeMirror type) {
        return type.getKind().isPrimitive()
            || type instanceof DeclaredType declared && isOwn(declared.asElement());
    }

    @Override
    public Void visitMethod(MethodTree tree, Void none) {
        calls.putIfAbsent(element(), new LinkedHashSet<>());
        rule("11: at most seven parameters", tree, tree.getParameters().size() <= MOST_PARAMETERS);
        long first = unit.getLineMap().getLineNumber(positions.getStartPosition(unit, tree));
        long last = unit.getLineMap().getLineNumber(positions.getEndPosition(unit, tree));
        rule("11: some sixty lines", tree, last - first < MOST_LINES);
        String name = tree.getName().toString();
        rule("6: no equals, hashCode, toString", tree, !Set.of("equals", "hashCode", "toString").contains(name));
        return super.visitMethod(tree, none);
    }

    @Override
    public Void visitMethodInvocation(MethodInvocationTree tree, Void none) {
        Element called = element();
        Element owner = called.getEnclosingElement();
        if (isOwn(owner)) {
            calls.computeIfAbsent(around(), key -> new LinkedHashSet<>()).add(called);
        } else if (called.getKind() != ElementKind.CONSTRUCTOR) {
            rule("4: " + owner + "." + called, tree, LIBRARY.contains(owner + "." + called));
        }
        return super.visitMethodInvocation(tree, none);
    }

    @Override
    public Void visitNewClass(NewClassTree tree, Void none) {
        Element made = element();
        if (isOwn(made.getEnclosingElement())) {
            calls.computeIfAbsent(around(), key -> new LinkedHashSet<>()).add(made);
        } else {
            boolean isThrown = getCurrentPath().getParentPath().getLeaf() instanceof ThrowTree;
            rule("6: what is thrown", tree, isThrown && THROWN.contains(made.getEnclosingElement().toString()));
            for (ExpressionTree argument : tree.getArguments()) {
                rule("6: a written text", tree, argument.getKind() == Tree.Kind.STRING_LITERAL);
            }
        }
        return super.visitNewClass(tree, none);
    }

    @Override
    public Void visitThrow(ThrowTree tree, Void none) {
        rule("6: throw new", tree, tree.getExpression() instanceof NewClassTree);
        rule("6: no throw in a constructor", tree, around().getKind() == ElementKind.METHOD);
        return super.visitThrow(tree, none);
    }

    @Override
    public Void visitBinary(BinaryTree tree, Void none) {
        boolean isOfNumbers = trees.getTypeMirror(getCurrentPath()).getKind().isPrimitive();
        rule("10: texts are not joined by +", tree, isOfNumbers);
        return super.visitBinary(tree, none);
    }

    @Override
    public Void visitTypeCast(TypeCastTree tree, Void none) {
        rule("6: casts among numbers alone", tree, trees.getTypeMirror(getCurrentPath()).getKind().isPrimitive());
        return super.visitTypeCast(tree, none);
    }
}
