import com.sun.source.tree.AssertTree;
import com.sun.source.tree.BinaryTree;
import com.sun.source.tree.BlockTree;
import com.sun.source.tree.CatchTree;
import com.sun.source.tree.ClassTree;
import com.sun.source.tree.CompilationUnitTree;
import com.sun.source.tree.CompoundAssignmentTree;
import com.sun.source.tree.DoWhileLoopTree;
import com.sun.source.tree.ExpressionTree;
import com.sun.source.tree.ForLoopTree;
import com.sun.source.tree.ImportTree;
import com.sun.source.tree.LambdaExpressionTree;
import com.sun.source.tree.LiteralTree;
import com.sun.source.tree.MemberReferenceTree;
import com.sun.source.tree.MethodInvocationTree;
import com.sun.source.tree.MethodTree;
import com.sun.source.tree.NewArrayTree;
import com.sun.source.tree.NewClassTree;
import com.sun.source.tree.ParenthesizedTree;
import com.sun.source.tree.SynchronizedTree;
import com.sun.source.tree.ThrowTree;
import com.sun.source.tree.Tree;
import com.sun.source.tree.TryTree;
import com.sun.source.tree.VariableTree;
import com.sun.source.tree.WhileLoopTree;
import com.sun.source.util.TreePath;
import com.sun.source.util.TreePathScanner;
import com.sun.source.util.Trees;
import java.util.HashSet;
import java.util.List;
import java.util.Map;
import java.util.Set;
import javax.lang.model.element.Element;
import javax.lang.model.element.ElementKind;
import javax.lang.model.element.Modifier;
import javax.lang.model.element.VariableElement;
import javax.lang.model.type.ArrayType;
import javax.lang.model.type.TypeKind;
import javax.lang.model.type.TypeMirror;

/** Goes through the tree of the program and notes what ../shared/LANGUAGE.md does not allow, by the number of the rule. */
final class LanguageRules extends TreePathScanner<Void, Void> {
    private static final int MAX_CLASSES = 12;
    private static final int MAX_FIELDS = 20;
    private static final int MAX_PARAMETERS = 7;
    private static final int MAX_LINES = 60;
    private static final Set<String> IMPORTS = Set.of("java.util.Arrays", "java.util.ArrayList", "java.util.List",
            "java.util.Iterator", "java.util.NoSuchElementException");
    private static final Set<String> EXCEPTIONS = Set.of("IllegalStateException", "IllegalArgumentException",
            "IndexOutOfBoundsException", "ArithmeticException", "UnsupportedOperationException", "NoSuchElementException",
            "RuntimeException");
    private static final Set<String> LIBRARY_TYPES = Set.of("java.lang.String", "java.lang.StringBuilder", "java.lang.Integer",
            "java.util.ArrayList", "java.util.List");
    private static final Set<String> NUMBER_FUNCTIONS = Set.of("compare", "max", "min", "abs", "bitCount", "floorDiv",
            "floorMod", "signum", "numberOfLeadingZeros", "numberOfTrailingZeros", "highestOneBit", "lowestOneBit");
    private static final Map<String, Set<String>> LIBRARY = Map.of(
            "java.lang.String", Set.of("length", "charAt", "isEmpty", "equals", "indexOf", "substring", "toCharArray"),
            "java.lang.StringBuilder", Set.of("append", "charAt", "setCharAt", "setLength", "deleteCharAt", "reverse", "length",
                    "toString"),
            "java.util.ArrayList", Set.of("add", "get", "set", "remove", "size", "isEmpty", "clear"),
            "java.util.List", Set.of("add", "get", "set", "remove", "size", "isEmpty", "clear", "of"),
            "java.lang.Math", NUMBER_FUNCTIONS,
            "java.lang.Integer", NUMBER_FUNCTIONS,
            "java.lang.Long", NUMBER_FUNCTIONS,
            "java.lang.System", Set.of("arraycopy"),
            "java.util.Arrays", Set.of("copyOf", "copyOfRange", "fill"));

    private final CompilationUnitTree unit;
    private final Trees trees;
    private final Set<String> publicNames = new HashSet<>();
    private final Set<String> otherNames = new HashSet<>();
    private int classes;

    LanguageRules(CompilationUnitTree unit, Trees trees) {
        this.unit = unit;
        this.trees = trees;
    }

    void finish() {
        Check.same("rule 11 classes: " + classes, classes <= MAX_CLASSES, true);
        otherNames.retainAll(publicNames);
        Check.same("rule 1 names of public methods borne by others", otherNames.toString(), "[]");
        Check.same("rule 1 package", String.valueOf(unit.getPackageName()), "null");
        Check.same("one class outside", unit.getTypeDecls().size(), 1);
    }

    private void demand(int rule, Tree tree, boolean isKept) {
        String text = tree.toString().lines().filter(line -> !line.isBlank()).findFirst().orElse("");
        Check.same("rule " + rule + ", line " + lineOf(start(tree)) + ", kept by " + text, isKept, true);
    }

    private long start(Tree tree) {
        return trees.getSourcePositions().getStartPosition(unit, tree);
    }

    private long lineOf(long position) {
        return position < 0 ? 0 : unit.getLineMap().getLineNumber(position);
    }

    private Element here() {
        return trees.getElement(getCurrentPath());
    }

    private TypeMirror typeOf(Tree tree) {
        return trees.getTypeMirror(new TreePath(getCurrentPath(), tree));
    }

    private boolean isOwn(Element element) {
        return element != null && element.toString().startsWith("PackedTable");
    }

    private MethodTree method() {
        TreePath path = getCurrentPath();
        while (path != null && !(path.getLeaf() instanceof MethodTree)) {
            path = path.getParentPath();
        }
        return path == null ? null : (MethodTree) path.getLeaf();
    }

    private static boolean isConstructor(MethodTree method) {
        return method == null || method.getName().contentEquals("<init>");
    }

    // ---- classes, methods and variables

    @Override
    public Void visitImport(ImportTree tree, Void nothing) {
        demand(4, tree, !tree.isStatic() && IMPORTS.contains(tree.getQualifiedIdentifier().toString()));
        return super.visitImport(tree, nothing);
    }

    @Override
    public Void visitClass(ClassTree tree, Void nothing) {
        classes++;
        Element element = here();
        boolean isOuter = element.getSimpleName().contentEquals("PackedTable");
        demand(1, tree, isOuter || !element.getModifiers().contains(Modifier.PUBLIC));
        demand(2, tree, isOuter || element.getModifiers().contains(Modifier.STATIC));
        demand(2, tree, method() == null);
        demand(6, tree, tree.getExtendsClause() == null || isOwn(trees.getElement(
                new TreePath(getCurrentPath(), tree.getExtendsClause()))));
        int fields = 0;
        for (Tree member : tree.getMembers()) {
            demand(5, member, !(member instanceof BlockTree));
            boolean isField = member instanceof VariableTree variable
                    && !variable.getModifiers().getFlags().contains(Modifier.STATIC);
            fields += isField ? 1 : 0;
        }
        demand(11, tree, fields <= MAX_FIELDS);
        return super.visitClass(tree, nothing);
    }

    @Override
    public Void visitMethod(MethodTree tree, Void nothing) {
        Element element = here();
        boolean isOfOuter = element.getEnclosingElement().getSimpleName().contentEquals("PackedTable");
        boolean isPublic = isOfOuter && element.getModifiers().contains(Modifier.PUBLIC);
        (isPublic ? publicNames : otherNames).add(isConstructor(tree) ? "" : tree.getName().toString());
        otherNames.remove("");
        demand(1, tree, !isOfOuter || isPublic || element.getModifiers().contains(Modifier.PRIVATE));
        demand(6, tree, !Set.of("equals", "hashCode", "toString").contains(tree.getName().toString()));
        demand(11, tree, tree.getParameters().size() <= MAX_PARAMETERS);
        long end = trees.getSourcePositions().getEndPosition(unit, tree);
        demand(11, tree, end < 0 || lineOf(end) - lineOf(start(tree)) < MAX_LINES);
        if (tree.getReturnType() != null) {
            demand(3, tree, isAllowed(typeOf(tree.getReturnType())));
        }
        return super.visitMethod(tree, nothing);
    }

    @Override
    public Void visitVariable(VariableTree tree, Void nothing) {
        VariableElement element = (VariableElement) here();
        TypeMirror type = element.asType();
        boolean isCaught = element.getKind() == ElementKind.EXCEPTION_PARAMETER;
        demand(3, tree, isCaught || isAllowed(type));
        boolean isField = element.getKind() == ElementKind.FIELD;
        if (isField && element.getModifiers().contains(Modifier.STATIC)) {
            demand(5, tree, element.getModifiers().contains(Modifier.FINAL) && isConstant(tree, type));
        } else if (isField && element.getEnclosingElement().getKind() == ElementKind.ENUM) {
            demand(2, tree, Set.of("int", "long", "boolean", "java.lang.String").contains(type.toString()));
        }
        return super.visitVariable(tree, nothing);
    }

    private boolean isConstant(VariableTree tree, TypeMirror type) {
        if (type.getKind() != TypeKind.ARRAY) {
            return Set.of("int", "long", "boolean", "char", "java.lang.String").contains(type.toString());
        }
        boolean isWrittenOut = tree.getInitializer() instanceof NewArrayTree array && array.getInitializers() != null
                && Set.of("int[]", "long[]", "char[]", "byte[]").contains(type.toString());
        return isWrittenOut || tree.getInitializer().toString().endsWith(".values()");
    }

    private static boolean isAllowed(TypeMirror type) {
        if (type.getKind() == TypeKind.ARRAY) {
            TypeMirror part = ((ArrayType) type).getComponentType();
            return part.getKind() == TypeKind.ARRAY
                    ? ((ArrayType) part).getComponentType().getKind().isPrimitive()
                    : isAllowed(part);
        }
        String name = type.toString().replaceAll("<.*", "");
        return type.getKind().isPrimitive() || type.getKind() == TypeKind.VOID || LIBRARY_TYPES.contains(name)
                || name.startsWith("PackedTable");
    }

    // ---- calls and objects

    @Override
    public Void visitMethodInvocation(MethodInvocationTree tree, Void nothing) {
        Element element = here();
        Element owner = element.getEnclosingElement();
        String name = element.getSimpleName().toString();
        boolean isLibrary = LIBRARY.getOrDefault(owner.toString(), Set.of()).contains(name);
        boolean isImplied = name.equals("<init>") || name.equals("clone");
        demand(4, tree, isOwn(owner) || isLibrary || isImplied);
        return super.visitMethodInvocation(tree, nothing);
    }

    @Override
    public Void visitNewClass(NewClassTree tree, Void nothing) {
        Element owner = here().getEnclosingElement();
        boolean isThrown = getCurrentPath().getParentPath().getLeaf() instanceof ThrowTree;
        demand(4, tree, isOwn(owner) || isThrown || LIBRARY_TYPES.contains(owner.toString()));
        return super.visitNewClass(tree, nothing);
    }

    @Override
    public Void visitLiteral(LiteralTree tree, Void nothing) {
        boolean isText = tree.getKind() == Tree.Kind.STRING_LITERAL;
        demand(4, tree, !isText || ((String) tree.getValue()).chars().allMatch(sign -> sign > 0 && sign < 128));
        return super.visitLiteral(tree, nothing);
    }

    @Override
    public Void visitBinary(BinaryTree tree, Void nothing) {
        String left = String.valueOf(typeOf(tree.getLeftOperand()));
        String right = String.valueOf(typeOf(tree.getRightOperand()));
        boolean isOfTexts = left.equals("java.lang.String") || right.equals("java.lang.String");
        boolean isOfObjects = isOfTexts || (left.equals("java.lang.Integer") && right.equals(left));
        boolean isComparison = tree.getKind() == Tree.Kind.EQUAL_TO || tree.getKind() == Tree.Kind.NOT_EQUAL_TO;
        demand(10, tree, tree.getKind() != Tree.Kind.PLUS || !isOfTexts);
        demand(6, tree, !isComparison || !isOfObjects || left.equals("<nulltype>") || right.equals("<nulltype>"));
        return super.visitBinary(tree, nothing);
    }

    @Override
    public Void visitCompoundAssignment(CompoundAssignmentTree tree, Void nothing) {
        demand(10, tree, !String.valueOf(typeOf(tree.getVariable())).equals("java.lang.String"));
        return super.visitCompoundAssignment(tree, nothing);
    }

    // ---- what is not in the language, exceptions and loops

    @Override
    public Void visitLambdaExpression(LambdaExpressionTree tree, Void nothing) {
        demand(2, tree, false);
        return super.visitLambdaExpression(tree, nothing);
    }

    @Override
    public Void visitMemberReference(MemberReferenceTree tree, Void nothing) {
        demand(2, tree, false);
        return super.visitMemberReference(tree, nothing);
    }

    @Override
    public Void visitSynchronized(SynchronizedTree tree, Void nothing) {
        demand(6, tree, false);
        return super.visitSynchronized(tree, nothing);
    }

    @Override
    public Void visitAssert(AssertTree tree, Void nothing) {
        demand(6, tree, false);
        return super.visitAssert(tree, nothing);
    }

    @Override
    public Void visitThrow(ThrowTree tree, Void nothing) {
        boolean isNew = tree.getExpression() instanceof NewClassTree made
                && EXCEPTIONS.contains(made.getIdentifier().toString()) && isPlain(made.getArguments());
        demand(6, tree, isNew && !isConstructor(method()));
        demand(6, tree, isNew && !method().getBody().toString().contains("try "));
        return super.visitThrow(tree, nothing);
    }

    private static boolean isPlain(List<? extends ExpressionTree> arguments) {
        return arguments.isEmpty() || (arguments.size() == 1 && arguments.get(0).getKind() == Tree.Kind.STRING_LITERAL);
    }

    @Override
    public Void visitTry(TryTree tree, Void nothing) {
        demand(6, tree, tree.getFinallyBlock() == null && tree.getResources().isEmpty());
        return super.visitTry(tree, nothing);
    }

    @Override
    public Void visitCatch(CatchTree tree, Void nothing) {
        demand(6, tree, EXCEPTIONS.contains(tree.getParameter().getType().toString()));
        return super.visitCatch(tree, nothing);
    }

    @Override
    public Void visitForLoop(ForLoopTree tree, Void nothing) {
        demand(9, tree, tree.getCondition() != null && isCondition(tree.getCondition()));
        return super.visitForLoop(tree, nothing);
    }

    @Override
    public Void visitWhileLoop(WhileLoopTree tree, Void nothing) {
        demand(9, tree, isCondition(tree.getCondition()));
        return super.visitWhileLoop(tree, nothing);
    }

    @Override
    public Void visitDoWhileLoop(DoWhileLoopTree tree, Void nothing) {
        demand(9, tree, isCondition(tree.getCondition()));
        return super.visitDoWhileLoop(tree, nothing);
    }

    private static boolean isCondition(ExpressionTree tree) {
        ExpressionTree inner = tree instanceof ParenthesizedTree parenthesized ? parenthesized.getExpression() : tree;
        return inner.getKind() != Tree.Kind.BOOLEAN_LITERAL;
    }
}
