import com.sun.source.tree.BinaryTree;
import com.sun.source.tree.BlockTree;
import com.sun.source.tree.CatchTree;
import com.sun.source.tree.ClassTree;
import com.sun.source.tree.CompilationUnitTree;
import com.sun.source.tree.CompoundAssignmentTree;
import com.sun.source.tree.EnhancedForLoopTree;
import com.sun.source.tree.ExpressionTree;
import com.sun.source.tree.LambdaExpressionTree;
import com.sun.source.tree.LiteralTree;
import com.sun.source.tree.MemberReferenceTree;
import com.sun.source.tree.MethodInvocationTree;
import com.sun.source.tree.MethodTree;
import com.sun.source.tree.NewArrayTree;
import com.sun.source.tree.NewClassTree;
import com.sun.source.tree.SynchronizedTree;
import com.sun.source.tree.ThrowTree;
import com.sun.source.tree.Tree;
import com.sun.source.tree.TryTree;
import com.sun.source.tree.TypeCastTree;
import com.sun.source.tree.VariableTree;
import com.sun.source.util.JavacTask;
import com.sun.source.util.TreePath;
import com.sun.source.util.TreePathScanner;
import com.sun.source.util.Trees;
import java.io.IOException;
import java.nio.file.Path;
import java.util.HashMap;
import java.util.HashSet;
import java.util.LinkedHashSet;
import java.util.List;
import java.util.Map;
import java.util.Set;
import javax.lang.model.element.Element;
import javax.lang.model.element.ElementKind;
import javax.lang.model.element.Modifier;
import javax.lang.model.element.TypeElement;
import javax.lang.model.type.ArrayType;
import javax.lang.model.type.DeclaredType;
import javax.lang.model.type.TypeKind;
import javax.lang.model.type.TypeMirror;
import javax.tools.JavaCompiler;
import javax.tools.StandardJavaFileManager;
import javax.tools.ToolProvider;

/** The rules of ../shared/LANGUAGE.md that the source itself shows, by the compiler's own tree of it. */
public final class LanguageTest extends TreePathScanner<Void, Void> {
    private static final Path SOURCE = Path.of("src/main/java/StampBureau.java");
    private static final Set<String> LIBRARY = Set.of("java.lang.Math.max", "java.lang.Math.min", "java.lang.Math.abs",
        "java.lang.Math.floorMod", "java.lang.Math.floorDiv", "java.lang.Integer.bitCount", "java.lang.Long.bitCount");
    private static final Set<String> THROWN = Set.of("IllegalStateException", "IllegalArgumentException",
        "IndexOutOfBoundsException");
    private static final int MOST_PARAMETERS = 7;
    private static final int MOST_LINES = 60;
    private static final int MOST_DEEP = 8;
    private static final int MOST_CLASSES = 12;
    private static final int MOST_FIELDS = 20;

    private final Trees trees;
    private final CompilationUnitTree unit;
    private final Map<Element, Set<Element>> calls = new HashMap<>();
    private final Set<String> libraryTypes = new HashSet<>();
    private final Set<Element> face = new LinkedHashSet<>();
    private int classes = 0;

    private LanguageTest(Trees trees, CompilationUnitTree unit) {
        this.trees = trees;
        this.unit = unit;
    }

    public static void main(String[] args) throws IOException {
        JavaCompiler compiler = ToolProvider.getSystemJavaCompiler();
        try (StandardJavaFileManager files = compiler.getStandardFileManager(null, null, null)) {
            JavacTask task = (JavacTask) compiler.getTask(null, files, null, List.of("-proc:none"), null,
                files.getJavaFileObjects(SOURCE));
            CompilationUnitTree unit = task.parse().iterator().next();
            task.analyze();
            LanguageTest test = new LanguageTest(Trees.instance(task), unit);
            test.scan(unit, null);
            test.wholeFile();
        }
        Checks.end();
    }

    private void holds(int rule, String what, Tree tree, boolean held) {
        long line = unit.getLineMap().getLineNumber(startOf(tree));
        Checks.due("LANGUAGE.md, rule " + rule + ": " + what + ", line " + line, true, held);
    }

    private long startOf(Tree tree) {
        return trees.getSourcePositions().getStartPosition(unit, tree);
    }

    private Element element(Tree tree) {
        return trees.getElement(new TreePath(getCurrentPath(), tree));
    }

    private TypeMirror type(Tree tree) {
        return trees.getTypeMirror(new TreePath(getCurrentPath(), tree));
    }

    private Element methodAround() {
        for (TreePath path = getCurrentPath(); path != null; path = path.getParentPath()) {
            if (path.getLeaf() instanceof MethodTree) {
                return trees.getElement(path);
            }
        }
        return null;
    }

    private static boolean isOfTheFile(Element element) {
        Element outermost = element;
        while (outermost.getEnclosingElement() != null && outermost.getEnclosingElement().getKind() != ElementKind.PACKAGE) {
            outermost = outermost.getEnclosingElement();
        }
        return outermost.getSimpleName().contentEquals("StampBureau");
    }

    private void wholeFile() {
        holds(1, "no package line and no import", unit,
            unit.getPackageName() == null && unit.getImports().isEmpty() && unit.getTypeDecls().size() == 1);
        holds(11, "at most some twelve classes", unit, classes <= MOST_CLASSES);
        Checks.due("the face has its methods and the constructor", 19, face.size());
        for (Element method : face) {
            int deep = depth(method, new HashSet<>());
            Checks.due("LANGUAGE.md, rule 11: calls go at most eight deep from " + method + ", " + deep, true, deep <= MOST_DEEP);
        }
    }

    /** How many methods stand open at once below a method, itself too; 1000 where it comes to itself again. */
    private int depth(Element method, Set<Element> open) {
        if (!open.add(method)) {
            return 1000;
        }
        int deepest = 0;
        for (Element called : calls.getOrDefault(method, Set.of())) {
            deepest = Math.max(deepest, depth(called, open));
        }
        open.remove(method);
        return 1 + deepest;
    }

    @Override
    public Void visitClass(ClassTree tree, Void none) {
        classes++;
        TypeElement type = (TypeElement) trees.getElement(getCurrentPath());
        boolean inside = type.getEnclosingElement().getKind() != ElementKind.PACKAGE;
        Set<Modifier> modifiers = type.getModifiers();
        holds(2, "a class inside is static and not public", tree, !inside
            || modifiers.contains(Modifier.STATIC) && !modifiers.contains(Modifier.PUBLIC) && !modifiers.contains(Modifier.PROTECTED));
        int fields = 0;
        for (Element member : type.getEnclosedElements()) {
            if (member.getKind() == ElementKind.FIELD) {
                boolean isStatic = member.getModifiers().contains(Modifier.STATIC);
                fields += isStatic ? 0 : 1;
                holds(5, "a static field is final: " + member, tree, !isStatic || member.getModifiers().contains(Modifier.FINAL));
            }
            holds(5, "no static initialiser: " + type, tree, member.getKind() != ElementKind.STATIC_INIT);
        }
        holds(11, "a class has some twenty fields at most", tree, fields <= MOST_FIELDS);
        return super.visitClass(tree, none);
    }

    @Override
    public Void visitBlock(BlockTree tree, Void none) {
        holds(5, "no static initialiser block", tree, !tree.isStatic());
        return super.visitBlock(tree, none);
    }

    @Override
    public Void visitMethod(MethodTree tree, Void none) {
        Element method = trees.getElement(getCurrentPath());
        calls.putIfAbsent(method, new LinkedHashSet<>());
        if (method.getModifiers().contains(Modifier.PUBLIC)) {
            face.add(method);
        }
        holds(11, "a method takes at most seven parameters", tree, tree.getParameters().size() <= MOST_PARAMETERS);
        long last = unit.getLineMap().getLineNumber(trees.getSourcePositions().getEndPosition(unit, tree));
        long lines = last - unit.getLineMap().getLineNumber(startOf(tree)) + 1;
        holds(11, "a method has at most some sixty lines", tree, lines <= MOST_LINES);
        String name = tree.getName().toString();
        holds(6, "no equals, hashCode or toString of one's own", tree, !Set.of("equals", "hashCode", "toString").contains(name));
        return super.visitMethod(tree, none);
    }

    private void called(Tree tree, Element called, int rule) {
        Element from = methodAround();
        if (isOfTheFile(called)) {
            if (from != null) {
                calls.computeIfAbsent(from, key -> new LinkedHashSet<>()).add(called);
            }
        } else {
            String name = called.getEnclosingElement() + "." + called.getSimpleName();
            boolean known = called.getKind() == ElementKind.CONSTRUCTOR || LIBRARY.contains(name);
            holds(rule, "only what the list of the library holds: " + name, tree, known);
        }
    }

    @Override
    public Void visitMethodInvocation(MethodInvocationTree tree, Void none) {
        called(tree, element(tree.getMethodSelect()), 4);
        return super.visitMethodInvocation(tree, none);
    }

    @Override
    public Void visitNewClass(NewClassTree tree, Void none) {
        Element made = trees.getElement(getCurrentPath());
        boolean thrown = getCurrentPath().getParentPath().getLeaf() instanceof ThrowTree;
        holds(4, "an object is of a class of the file, or thrown at once", tree, isOfTheFile(made) || thrown);
        called(tree, made, 4);
        return super.visitNewClass(tree, none);
    }

    @Override
    public Void visitNewArray(NewArrayTree tree, Void none) {
        for (ExpressionTree length : tree.getDimensions()) {
            Element constant = element(length);
            boolean known = length instanceof LiteralTree || constant != null
                && constant.getModifiers().containsAll(Set.of(Modifier.STATIC, Modifier.FINAL));
            holds(7, "the length of a new array is a constant", tree, known);
        }
        return super.visitNewArray(tree, none);
    }

    @Override
    public Void visitThrow(ThrowTree tree, Void none) {
        boolean plain = tree.getExpression() instanceof NewClassTree;
        if (plain) {
            NewClassTree made = (NewClassTree) tree.getExpression();
            plain = THROWN.contains(made.getIdentifier().toString()) && made.getArguments().stream()
                .allMatch(text -> text instanceof LiteralTree);
        }
        holds(6, "throw new E(\"a written text\")", tree, plain);
        Element around = methodAround();
        holds(6, "no throw in a constructor", tree, around != null && around.getKind() == ElementKind.METHOD);
        holds(6, "only a call of the face throws", tree, face.contains(around));
        return super.visitThrow(tree, none);
    }

    @Override
    public Void visitTry(TryTree tree, Void none) {
        holds(6, "no finally, no try with resources", tree, tree.getFinallyBlock() == null && tree.getResources().isEmpty());
        return super.visitTry(tree, none);
    }

    @Override
    public Void visitCatch(CatchTree tree, Void none) {
        holds(6, "nothing is caught, as no private method throws", tree, false);
        return super.visitCatch(tree, none);
    }

    @Override
    public Void visitSynchronized(SynchronizedTree tree, Void none) {
        holds(6, "no synchronized", tree, false);
        return super.visitSynchronized(tree, none);
    }

    @Override
    public Void visitLambdaExpression(LambdaExpressionTree tree, Void none) {
        holds(2, "no lambda", tree, false);
        return super.visitLambdaExpression(tree, none);
    }

    @Override
    public Void visitMemberReference(MemberReferenceTree tree, Void none) {
        holds(2, "no method reference", tree, false);
        return super.visitMemberReference(tree, none);
    }

    @Override
    public Void visitTypeCast(TypeCastTree tree, Void none) {
        holds(6, "a cast is one of numbers", tree, type(tree).getKind().isPrimitive());
        return super.visitTypeCast(tree, none);
    }

    @Override
    public Void visitEnhancedForLoop(EnhancedForLoopTree tree, Void none) {
        holds(12, "for over an array makes no iterator", tree, type(tree.getExpression()).getKind() == TypeKind.ARRAY);
        return super.visitEnhancedForLoop(tree, none);
    }

    @Override
    public Void visitVariable(VariableTree tree, Void none) {
        TypeMirror type = trees.getTypeMirror(getCurrentPath());
        if (type.getKind() == TypeKind.ARRAY) {
            type = ((ArrayType) type).getComponentType();
        }
        boolean own = type.getKind() == TypeKind.DECLARED && isOfTheFile(((DeclaredType) type).asElement());
        holds(3, "the type of " + tree.getName() + " is a number, a class of the file or an array of these", tree,
            type.getKind().isPrimitive() || own);
        return super.visitVariable(tree, none);
    }

    @Override
    public Void visitBinary(BinaryTree tree, Void none) {
        TypeKind kind = type(tree).getKind();
        holds(10, "texts are not joined by +", tree, kind.isPrimitive());
        if (tree.getKind() == Tree.Kind.DIVIDE || tree.getKind() == Tree.Kind.REMAINDER) {
            divisorIsTested(tree);
        }
        return super.visitBinary(tree, none);
    }

    @Override
    public Void visitCompoundAssignment(CompoundAssignmentTree tree, Void none) {
        boolean divides = tree.getKind() == Tree.Kind.DIVIDE_ASSIGNMENT || tree.getKind() == Tree.Kind.REMAINDER_ASSIGNMENT;
        holds(7, "no dividing assignment", tree, !divides);
        holds(10, "texts are not joined by +=", tree, type(tree.getVariable()).getKind().isPrimitive());
        return super.visitCompoundAssignment(tree, none);
    }

    /** A divisor is a constant, or the division is one side of a ?: that looks at it first. */
    private void divisorIsTested(BinaryTree tree) {
        Element divisor = element(tree.getRightOperand());
        boolean constant = tree.getRightOperand() instanceof LiteralTree || divisor != null
            && divisor.getModifiers().containsAll(Set.of(Modifier.STATIC, Modifier.FINAL));
        boolean chosen = getCurrentPath().getParentPath().getLeaf().getKind() == Tree.Kind.CONDITIONAL_EXPRESSION;
        holds(7, "a divisor is looked at before it divides", tree, constant || chosen);
    }
}
