import com.sun.source.tree.*;
import com.sun.source.util.TreePath;
import com.sun.source.util.TreePathScanner;
import com.sun.source.util.Trees;
import java.util.ArrayList;
import java.util.HashSet;
import java.util.List;
import java.util.Map;
import java.util.Set;
import javax.lang.model.element.Element;
import javax.lang.model.element.ExecutableElement;
import javax.lang.model.element.Modifier;
import javax.lang.model.element.TypeElement;
import javax.lang.model.type.ArrayType;
import javax.lang.model.type.TypeKind;
import javax.lang.model.type.TypeMirror;

/**
 * Goes through the source and tells what is outside the rules of LANGUAGE.md, with the rule's number. It is
 * narrower than the rules where the class does not need them: objects are made for fields and in
 * constructors alone, and there are no casts between classes.
 */
final class SourceRules extends TreePathScanner<Void, Void> {
    private static final int MOST_PARAMETERS = 7, MOST_LINES = 60, MOST_FIELDS = 20;
    private static final Map<String, Set<String>> LIBRARY = Map.of(
        "java.lang.String", Set.of("length", "charAt", "isEmpty", "equals", "indexOf", "substring", "toCharArray"),
        "java.lang.StringBuilder", Set.of("append", "charAt", "setCharAt", "setLength", "deleteCharAt", "reverse",
            "length", "toString"),
        "java.lang.Math", Set.of("max", "min", "abs", "floorDiv", "floorMod"),
        "java.lang.Integer", Set.of("compare", "max", "min", "bitCount", "numberOfTrailingZeros", "signum"),
        "java.lang.Long", Set.of("compare", "max", "min", "bitCount", "numberOfTrailingZeros", "signum"),
        "java.lang.System", Set.of("arraycopy"),
        "java.util.Arrays", Set.of("copyOf", "copyOfRange", "fill"));
    private static final Set<TypeKind> STATIC_ELEMENTS = Set.of(TypeKind.INT, TypeKind.LONG, TypeKind.CHAR, TypeKind.BYTE);
    private static final Set<TypeKind> STATICS = Set.of(TypeKind.INT, TypeKind.LONG, TypeKind.CHAR, TypeKind.BOOLEAN);

    final List<String> faults = new ArrayList<>();
    final CallGraph calls = new CallGraph();
    final Set<String> carriesLevel = new HashSet<>();
    int classes = 0;

    private final Trees trees;
    private final Set<String> faceNames;

    SourceRules(Trees trees, Set<String> faceNames) {
        this.trees = trees;
        this.faceNames = faceNames;
    }

    private void rule(int number, boolean holds, Tree tree) {
        if (!holds) {
            CompilationUnitTree unit = getCurrentPath().getCompilationUnit();
            long line = unit.getLineMap().getLineNumber(trees.getSourcePositions().getStartPosition(unit, tree));
            faults.add("rule " + number + ", line " + line + ": " + tree.toString().strip().lines().findFirst().orElse(""));
        }
    }

    private static boolean isOwn(Element element) {
        Element outermost = element;
        for (Element at = element; at instanceof TypeElement || at instanceof ExecutableElement; at = at.getEnclosingElement()) {
            outermost = at;
        }
        return outermost.getSimpleName().contentEquals("TrieVersions");
    }

    private static String nameOf(ExecutableElement method) {
        return method.getEnclosingElement().getSimpleName() + "." + method.getSimpleName();
    }

    private TreePath above(Tree.Kind... kinds) {
        for (TreePath path = getCurrentPath().getParentPath(); path != null; path = path.getParentPath()) {
            if (Set.of(kinds).contains(path.getLeaf().getKind())) {
                return path;
            }
        }
        return null;
    }

    /** The method around the current place; null in what is made for a field. */
    private ExecutableElement methodAround() {
        TreePath path = above(Tree.Kind.METHOD, Tree.Kind.CLASS);
        return path != null && trees.getElement(path) instanceof ExecutableElement method ? method : null;
    }

    // ---- what is not there at all

    @Override
    public Void visitPackage(PackageTree tree, Void none) {
        rule(1, false, tree);
        return null;
    }

    @Override
    public Void visitImport(ImportTree tree, Void none) {
        rule(4, tree.getQualifiedIdentifier().toString().matches("java\\.util\\.(Arrays|ArrayList|List|Iterator)"), tree);
        return null;
    }

    @Override
    public Void visitLambdaExpression(LambdaExpressionTree tree, Void none) {
        rule(2, false, tree);
        return super.visitLambdaExpression(tree, none);
    }

    @Override
    public Void visitMemberReference(MemberReferenceTree tree, Void none) {
        rule(2, false, tree);
        return super.visitMemberReference(tree, none);
    }

    @Override
    public Void visitThrow(ThrowTree tree, Void none) {
        rule(6, false, tree);
        return super.visitThrow(tree, none);
    }

    @Override
    public Void visitTry(TryTree tree, Void none) {
        rule(6, false, tree);
        return super.visitTry(tree, none);
    }

    @Override
    public Void visitSynchronized(SynchronizedTree tree, Void none) {
        rule(6, false, tree);
        return super.visitSynchronized(tree, none);
    }

    @Override
    public Void visitAssert(AssertTree tree, Void none) {
        rule(6, false, tree);
        return super.visitAssert(tree, none);
    }

    @Override
    public Void visitTypeCast(TypeCastTree tree, Void none) {
        rule(6, trees.getTypeMirror(getCurrentPath()).getKind().isPrimitive(), tree);
        return super.visitTypeCast(tree, none);
    }

    // ---- classes, fields, methods

    @Override
    public Void visitClass(ClassTree tree, Void none) {
        classes++;
        Tree parent = getCurrentPath().getParentPath().getLeaf();
        boolean inside = parent instanceof ClassTree;
        Set<Modifier> modifiers = tree.getModifiers().getFlags();
        rule(2, inside ? modifiers.contains(Modifier.STATIC) : parent instanceof CompilationUnitTree, tree);
        rule(1, !inside || !modifiers.contains(Modifier.PUBLIC) && !modifiers.contains(Modifier.PROTECTED), tree);
        long fields = tree.getMembers().stream().filter(member -> member instanceof VariableTree field
            && !field.getModifiers().getFlags().contains(Modifier.STATIC)).count();
        rule(11, fields <= MOST_FIELDS, tree);
        return super.visitClass(tree, none);
    }

    @Override
    public Void visitBlock(BlockTree tree, Void none) {
        rule(5, !tree.isStatic(), tree);
        return super.visitBlock(tree, none);
    }

    @Override
    public Void visitVariable(VariableTree tree, Void none) {
        TypeMirror type = trees.getTypeMirror(getCurrentPath());
        rule(3, isAllowed(type), tree);
        Set<Modifier> modifiers = tree.getModifiers().getFlags();
        if (modifiers.contains(Modifier.STATIC)) {
            boolean isRow = type instanceof ArrayType row && STATIC_ELEMENTS.contains(row.getComponentType().getKind());
            rule(5, modifiers.contains(Modifier.FINAL), tree);
            rule(5, STATICS.contains(type.getKind()) || isRow || type.toString().equals("java.lang.String"), tree);
        }
        return super.visitVariable(tree, none);
    }

    private static boolean isAllowed(TypeMirror type) {
        if (type instanceof ArrayType array) {
            TypeMirror element = array.getComponentType();
            return element instanceof ArrayType row ? row.getComponentType().getKind().isPrimitive() : isAllowed(element);
        }
        return type.getKind().isPrimitive() || type.getKind() == TypeKind.VOID
            || type.toString().matches("TrieVersions(\\.\\w+)?|java\\.lang\\.String(Builder)?");
    }

    @Override
    public Void visitMethod(MethodTree tree, Void none) {
        ExecutableElement method = (ExecutableElement) trees.getElement(getCurrentPath());
        calls.add(nameOf(method));
        CompilationUnitTree unit = getCurrentPath().getCompilationUnit();
        LineMap lines = unit.getLineMap();
        long first = lines.getLineNumber(trees.getSourcePositions().getStartPosition(unit, tree));
        long last = lines.getLineNumber(Math.max(0, trees.getSourcePositions().getEndPosition(unit, tree)));
        rule(11, last - first < MOST_LINES, tree);
        rule(11, tree.getParameters().size() <= MOST_PARAMETERS, tree);
        rule(3, isAllowed(method.getReturnType()), tree);
        rule(1, faceNames.contains(tree.getName().toString()) == (method.getModifiers().contains(Modifier.PUBLIC)
            && !tree.getName().contentEquals("<init>")), tree);
        if (tree.getParameters().stream().anyMatch(parameter -> parameter.getName().contentEquals("level"))) {
            carriesLevel.add(nameOf(method));
        }
        return super.visitMethod(tree, none);
    }

    // ---- calls and what is made

    @Override
    public Void visitMethodInvocation(MethodInvocationTree tree, Void none) {
        ExecutableElement method = (ExecutableElement) trees.getElement(getCurrentPath());
        ExecutableElement around = methodAround();
        TypeElement owner = (TypeElement) method.getEnclosingElement();
        if (isOwn(method)) {
            calls.add(around == null ? "a field" : nameOf(around), nameOf(method));
        } else if (!tree.toString().equals("super()")) {
            rule(4, LIBRARY.getOrDefault(owner.getQualifiedName().toString(), Set.of())
                .contains(method.getSimpleName().toString()), tree);
        }
        return super.visitMethodInvocation(tree, none);
    }

    @Override
    public Void visitNewClass(NewClassTree tree, Void none) {
        rule(2, tree.getClassBody() == null, tree);
        rule(4, isOwn(trees.getElement(getCurrentPath())), tree);
        rule(12, isMadeWithTheObject(), tree);
        return super.visitNewClass(tree, none);
    }

    @Override
    public Void visitNewArray(NewArrayTree tree, Void none) {
        rule(12, isMadeWithTheObject(), tree);
        return super.visitNewArray(tree, none);
    }

    private boolean isMadeWithTheObject() {
        ExecutableElement around = methodAround();
        return around == null || around.getSimpleName().contentEquals("<init>");
    }

    // ---- loops and arithmetic

    @Override
    public Void visitForLoop(ForLoopTree tree, Void none) {
        rule(9, tree.getCondition() != null && tree.getUpdate().size() == 1, tree);
        return super.visitForLoop(tree, none);
    }

    @Override
    public Void visitWhileLoop(WhileLoopTree tree, Void none) {
        rule(9, tree.getCondition().toString().matches("\\(\\w+ [<>] .+\\)"), tree);
        return super.visitWhileLoop(tree, none);
    }

    @Override
    public Void visitDoWhileLoop(DoWhileLoopTree tree, Void none) {
        rule(9, false, tree);
        return super.visitDoWhileLoop(tree, none);
    }

    @Override
    public Void visitBinary(BinaryTree tree, Void none) {
        Tree.Kind kind = tree.getKind();
        rule(10, trees.getTypeMirror(getCurrentPath()).getKind().isPrimitive(), tree);
        if (kind == Tree.Kind.DIVIDE || kind == Tree.Kind.REMAINDER) {
            rule(7, isLookedAt(tree.getRightOperand()), tree);
        }
        return super.visitBinary(tree, none);
    }

    @Override
    public Void visitCompoundAssignment(CompoundAssignmentTree tree, Void none) {
        rule(10, trees.getTypeMirror(getCurrentPath()).getKind().isPrimitive(), tree);
        if (tree.getKind() == Tree.Kind.DIVIDE_ASSIGNMENT || tree.getKind() == Tree.Kind.REMAINDER_ASSIGNMENT) {
            rule(7, isLookedAt(tree.getExpression()), tree);
        }
        return super.visitCompoundAssignment(tree, none);
    }

    /** A divisor is a number but 0, or stands behind "divisor > 0 &&". */
    private boolean isLookedAt(ExpressionTree divisor) {
        if (divisor instanceof LiteralTree literal) {
            return !Integer.valueOf(0).equals(literal.getValue());
        }
        TreePath and = above(Tree.Kind.CONDITIONAL_AND);
        return and != null && ((BinaryTree) and.getLeaf()).getLeftOperand().toString().equals(divisor + " > 0")
            || isConstant(divisor);
    }

    private boolean isConstant(ExpressionTree divisor) {
        return trees.getElement(new TreePath(getCurrentPath(), divisor))
            instanceof javax.lang.model.element.VariableElement variable && variable.getConstantValue() instanceof Integer number
            && number != 0;
    }
}
