import com.sun.source.tree.ArrayAccessTree;
import com.sun.source.tree.AssertTree;
import com.sun.source.tree.AssignmentTree;
import com.sun.source.tree.BinaryTree;
import com.sun.source.tree.BlockTree;
import com.sun.source.tree.CatchTree;
import com.sun.source.tree.ClassTree;
import com.sun.source.tree.CompilationUnitTree;
import com.sun.source.tree.CompoundAssignmentTree;
import com.sun.source.tree.DoWhileLoopTree;
import com.sun.source.tree.EnhancedForLoopTree;
import com.sun.source.tree.ExpressionTree;
import com.sun.source.tree.ForLoopTree;
import com.sun.source.tree.LambdaExpressionTree;
import com.sun.source.tree.LiteralTree;
import com.sun.source.tree.MemberReferenceTree;
import com.sun.source.tree.MethodInvocationTree;
import com.sun.source.tree.MethodTree;
import com.sun.source.tree.NewArrayTree;
import com.sun.source.tree.NewClassTree;
import com.sun.source.tree.ParenthesizedTree;
import com.sun.source.tree.SwitchTree;
import com.sun.source.tree.SynchronizedTree;
import com.sun.source.tree.ThrowTree;
import com.sun.source.tree.Tree;
import com.sun.source.tree.TryTree;
import com.sun.source.tree.TypeCastTree;
import com.sun.source.tree.UnaryTree;
import com.sun.source.tree.VariableTree;
import com.sun.source.tree.WhileLoopTree;
import com.sun.source.util.JavacTask;
import com.sun.source.util.TreePath;
import com.sun.source.util.TreePathScanner;
import com.sun.source.util.Trees;
import java.io.IOException;
import java.net.URI;
import java.util.ArrayList;
import java.util.HashMap;
import java.util.HashSet;
import java.util.LinkedHashMap;
import java.util.List;
import java.util.Map;
import java.util.Set;
import java.util.TreeSet;
import javax.lang.model.element.Element;
import javax.lang.model.element.ElementKind;
import javax.lang.model.element.ExecutableElement;
import javax.lang.model.element.Modifier;
import javax.lang.model.element.TypeElement;
import javax.lang.model.element.VariableElement;
import javax.lang.model.type.ArrayType;
import javax.lang.model.type.DeclaredType;
import javax.lang.model.type.TypeKind;
import javax.lang.model.type.TypeMirror;
import javax.tools.DiagnosticCollector;
import javax.tools.JavaFileObject;
import javax.tools.SimpleJavaFileObject;
import javax.tools.ToolProvider;

/**
 * Holds a source against the rules of LANGUAGE.md, as far as they can be seen in the tree that javac makes of it. Where
 * a rule leaves what this program has no need of (catches, casts of objects, rows whose length is reckoned), it is
 * stricter than the rule.
 */
final class Language extends TreePathScanner<Void, Void> {
    private static final int MOST_CLASSES = 12;
    private static final int MOST_FIELDS = 20;
    private static final int MOST_LINES = 60;
    private static final int MOST_PARAMETERS = 7;
    private static final int MOST_DEPTH = 8;
    private static final int LAST_SIGN = 127;
    private static final Set<String> THROWN = Set.of("IllegalStateException", "IllegalArgumentException",
            "IndexOutOfBoundsException", "ArithmeticException", "UnsupportedOperationException",
            "NoSuchElementException", "RuntimeException");
    private static final Set<String> TYPES = Set.of("java.lang.String", "java.lang.StringBuilder", "java.lang.Integer",
            "java.util.ArrayList", "java.util.List");
    private static final Set<String> MADE = Set.of("java.lang.String", "java.lang.StringBuilder", "java.util.ArrayList");
    private static final Map<String, Set<String>> LIBRARY = Map.of(
            "java.lang.String", Set.of("length", "charAt", "isEmpty", "equals", "indexOf", "substring", "toCharArray"),
            "java.lang.StringBuilder", Set.of("append", "charAt", "setCharAt", "setLength", "deleteCharAt", "reverse",
                    "length", "toString"),
            "java.util.ArrayList", Set.of("add", "get", "set", "remove", "size", "isEmpty", "clear"),
            "java.util.List", Set.of("add", "get", "set", "remove", "size", "isEmpty", "clear", "of"),
            "java.util.Arrays", Set.of("copyOf", "copyOfRange", "fill"),
            "java.lang.System", Set.of("arraycopy"),
            "java.lang.Math", Set.of("min", "max", "abs", "floorDiv", "floorMod"),
            "java.lang.Integer", Set.of("compare", "max", "min", "bitCount"),
            "java.lang.Long", Set.of("compare", "max", "min", "bitCount"),
            "java.lang.Object", Set.of("<init>"));
    private static final Set<Tree.Kind> ON_FLOATS = Set.of(Tree.Kind.PLUS, Tree.Kind.MINUS, Tree.Kind.MULTIPLY,
            Tree.Kind.DIVIDE, Tree.Kind.EQUAL_TO, Tree.Kind.NOT_EQUAL_TO, Tree.Kind.LESS_THAN,
            Tree.Kind.LESS_THAN_EQUAL, Tree.Kind.GREATER_THAN, Tree.Kind.GREATER_THAN_EQUAL);

    private final List<String> faults = new ArrayList<>();
    private final Map<ExecutableElement, Set<ExecutableElement>> calls = new LinkedHashMap<>();
    private final Map<ExecutableElement, Set<String>> thrown = new HashMap<>();
    private final Trees trees;
    private final CompilationUnitTree unit;
    private final String source;
    private final String madeByCalls;
    private int classes;

    private Language(Trees trees, CompilationUnitTree unit, String source, String madeByCalls) {
        this.trees = trees;
        this.unit = unit;
        this.source = source;
        this.madeByCalls = madeByCalls;
    }

    /**
     * The places that break a rule, each with the rule's number in front; what does not compile has the rule 0. Calls
     * may make objects of one class alone.
     */
    static List<String> faults(String name, String source, String madeByCalls) throws IOException {
        JavaFileObject file = new SimpleJavaFileObject(URI.create("string:///" + name + ".java"),
                JavaFileObject.Kind.SOURCE) {
            @Override
            public CharSequence getCharContent(boolean ignored) {
                return source;
            }
        };
        DiagnosticCollector<JavaFileObject> told = new DiagnosticCollector<>();
        JavacTask task = (JavacTask) ToolProvider.getSystemJavaCompiler().getTask(null, null, told,
                List.of("-proc:none", "--release", "17"), null, List.of(file));
        CompilationUnitTree unit = task.parse().iterator().next();
        task.analyze();
        Language language = new Language(Trees.instance(task), unit, source, madeByCalls);
        if (!told.getDiagnostics().isEmpty()) {
            language.faults.add("0: " + told.getDiagnostics());
            return language.faults;
        }
        language.scan(unit, null);
        language.afterAll();
        return language.faults;
    }

    private void tell(int rule, Tree at, String what) {
        long start = trees.getSourcePositions().getStartPosition(unit, at);
        faults.add(rule + ": line " + unit.getLineMap().getLineNumber(start) + ": " + what);
    }

    // ---- classes and members ----

    @Override
    public Void visitCompilationUnit(CompilationUnitTree tree, Void none) {
        if (tree.getPackageName() != null) {
            tell(1, tree, "a package");
        }
        if (tree.getTypeDecls().size() != 1) {
            tell(1, tree, "more than one class that is not inside another");
        }
        for (int at = 0; at < source.length(); at++) {
            if (source.charAt(at) >= LAST_SIGN) {
                tell(4, tree, "a sign that is not written out, at " + at);
            }
        }
        return super.visitCompilationUnit(tree, none);
    }

    @Override
    public Void visitClass(ClassTree tree, Void none) {
        classes++;
        Set<Modifier> flags = tree.getModifiers().getFlags();
        Tree parent = getCurrentPath().getParentPath().getLeaf();
        if (parent == unit) {
            if (!flags.contains(Modifier.PUBLIC) || !flags.contains(Modifier.FINAL)) {
                tell(1, tree, "the class is not public and final");
            }
        } else if (!(parent instanceof ClassTree)) {
            tell(2, tree, "a class inside a method");
        } else if (flags.contains(Modifier.PUBLIC) || flags.contains(Modifier.PROTECTED)
                || !flags.contains(Modifier.STATIC)) {
            tell(1, tree, "a class inside that is not private or package-visible, and static");
        }
        int fields = 0;
        for (Tree member : tree.getMembers()) {
            if (member instanceof VariableTree field && !isStatic(field)) {
                fields++;
            }
            if (member instanceof BlockTree) {
                tell(5, member, "an initialiser block");
            }
            if (parent == unit) {
                onlyTheFaceIsSeen(member);
            }
        }
        if (fields > MOST_FIELDS) {
            tell(11, tree, fields + " fields");
        }
        return super.visitClass(tree, none);
    }

    private void onlyTheFaceIsSeen(Tree member) {
        Set<Modifier> flags = member instanceof MethodTree method ? method.getModifiers().getFlags()
                : member instanceof VariableTree field ? field.getModifiers().getFlags() : Set.of(Modifier.PRIVATE);
        if (!flags.contains(Modifier.PUBLIC) && !flags.contains(Modifier.PRIVATE)) {
            tell(1, member, "a member that is neither public nor private");
        }
    }

    private static boolean isStatic(VariableTree field) {
        return field.getModifiers().getFlags().contains(Modifier.STATIC);
    }

    @Override
    public Void visitMethod(MethodTree tree, Void none) {
        ExecutableElement method = (ExecutableElement) elementOf(tree);
        calls.putIfAbsent(method, new HashSet<>());
        thrown.putIfAbsent(method, new TreeSet<>());
        if (tree.getParameters().size() > MOST_PARAMETERS) {
            tell(11, tree, tree.getName() + " takes more than seven parameters");
        }
        long first = lineOf(trees.getSourcePositions().getStartPosition(unit, tree));
        long last = lineOf(trees.getSourcePositions().getEndPosition(unit, tree));
        if (last - first >= MOST_LINES) {
            tell(11, tree, tree.getName() + " has " + (last - first + 1) + " lines");
        }
        if (Set.of("equals", "hashCode", "toString").contains(tree.getName().toString())) {
            tell(6, tree, tree.getName() + " of its own");
        }
        if (tree.getModifiers().getFlags().contains(Modifier.SYNCHRONIZED)) {
            tell(6, tree, "synchronized");
        }
        if (tree.getReturnType() != null) {
            needType(tree.getReturnType(), method.getReturnType());
        }
        return super.visitMethod(tree, none);
    }

    private long lineOf(long at) {
        return at < 0 ? 0 : unit.getLineMap().getLineNumber(at);
    }

    @Override
    public Void visitVariable(VariableTree tree, Void none) {
        TypeMirror type = elementOf(tree).asType();
        if (!(getCurrentPath().getParentPath().getLeaf() instanceof CatchTree)) {
            needType(tree, type);
        }
        boolean isField = getCurrentPath().getParentPath().getLeaf() instanceof ClassTree;
        if (isField && isStatic(tree)) {
            boolean isFinal = tree.getModifiers().getFlags().contains(Modifier.FINAL);
            boolean isWrittenOut = tree.getInitializer() instanceof NewArrayTree row && row.getInitializers() != null;
            boolean isConstant = type instanceof ArrayType ? isWrittenOut
                    : type.getKind().isPrimitive() || type.toString().equals("java.lang.String");
            if (!isFinal || !isConstant) {
                tell(5, tree, tree.getName() + " is static and no constant");
            }
        }
        return super.visitVariable(tree, none);
    }

    // ---- types ----

    private void needType(Tree at, TypeMirror type) {
        if (!isAllowed(type)) {
            tell(3, at, "the type " + type);
        }
    }

    private boolean isAllowed(TypeMirror type) {
        if (type instanceof ArrayType row) {
            TypeMirror of = row.getComponentType();
            if (of instanceof ArrayType inner) {
                TypeKind kind = inner.getComponentType().getKind();
                return kind.isPrimitive() && kind != TypeKind.BOOLEAN;
            }
            return of.getKind().isPrimitive() || isOwn(of);
        }
        if (type instanceof DeclaredType declared) {
            String name = ((TypeElement) declared.asElement()).getQualifiedName().toString();
            return isOwn(type) || TYPES.contains(name) && declared.getTypeArguments().stream().allMatch(
                    of -> isOwn(of) || of.toString().equals("java.lang.Integer"));
        }
        return type.getKind().isPrimitive() || type.getKind() == TypeKind.VOID;
    }

    private boolean isOwn(TypeMirror type) {
        return type instanceof DeclaredType declared && trees.getTree(declared.asElement()) != null;
    }

    private TypeMirror typeOf(Tree tree) {
        return trees.getTypeMirror(new TreePath(getCurrentPath(), tree));
    }

    private Element elementOf(Tree tree) {
        return trees.getElement(tree == getCurrentPath().getLeaf() ? getCurrentPath()
                : new TreePath(getCurrentPath(), tree));
    }

    private boolean isFloating(Tree tree) {
        TypeKind kind = typeOf(tree).getKind();
        return kind == TypeKind.DOUBLE || kind == TypeKind.FLOAT;
    }

    private boolean isText(Tree tree) {
        return typeOf(tree).toString().equals("java.lang.String");
    }

    // ---- the library, and what is made ----

    @Override
    public Void visitMethodInvocation(MethodInvocationTree tree, Void none) {
        ExecutableElement called = (ExecutableElement) elementOf(tree);
        TypeElement owner = (TypeElement) called.getEnclosingElement();
        if (trees.getTree(called) != null) {
            called(called);
        } else if (!LIBRARY.getOrDefault(owner.getQualifiedName().toString(), Set.of())
                .contains(called.getSimpleName().toString())) {
            tell(4, tree, owner + "." + called);
        } else if (!owner.getSimpleName().contentEquals("StringBuilder")) {
            for (VariableElement parameter : called.getParameters()) {
                String type = parameter.asType().toString();
                if (Set.of("double", "float", "boolean[]", "java.lang.Object[]").contains(type)) {
                    tell(4, tree, owner + "." + called + " over " + type);
                }
            }
        }
        return super.visitMethodInvocation(tree, none);
    }

    private void called(ExecutableElement called) {
        ExecutableElement caller = caller();
        if (caller != null) {
            calls.computeIfAbsent(caller, key -> new HashSet<>()).add(called);
        }
    }

    /** The method round the place where the scan is; null in the initialiser of a field. */
    private ExecutableElement caller() {
        for (TreePath path = getCurrentPath(); path != null; path = path.getParentPath()) {
            if (path.getLeaf() instanceof MethodTree) {
                return (ExecutableElement) trees.getElement(path);
            }
        }
        return null;
    }

    private boolean isInLoop() {
        for (TreePath path = getCurrentPath(); path != null; path = path.getParentPath()) {
            Tree leaf = path.getLeaf();
            if (leaf instanceof ForLoopTree || leaf instanceof WhileLoopTree || leaf instanceof DoWhileLoopTree
                    || leaf instanceof EnhancedForLoopTree) {
                return true;
            }
        }
        return false;
    }

    @Override
    public Void visitNewClass(NewClassTree tree, Void none) {
        TypeMirror type = typeOf(tree.getIdentifier());
        boolean isThrown = getCurrentPath().getParentPath().getLeaf() instanceof ThrowTree;
        if (isOwn(type)) {
            called((ExecutableElement) elementOf(tree));
        } else if (!isThrown && !MADE.contains(((TypeElement) ((DeclaredType) type).asElement()).toString())) {
            tell(4, tree, "new " + type);
        }
        boolean isOfCall = caller() != null && !tree.getIdentifier().toString().equals(madeByCalls);
        if (!isThrown && (isOfCall || isInLoop())) {
            tell(12, tree, "made by a call, or in a loop");
        }
        return super.visitNewClass(tree, none);
    }

    @Override
    public Void visitNewArray(NewArrayTree tree, Void none) {
        needType(tree, typeOf(tree));
        for (ExpressionTree length : tree.getDimensions()) {
            if (!isConstant(length)) {
                tell(7, length, "a length that is no constant");
            }
        }
        if (caller() != null) {
            tell(12, tree, "a row that is not made with its object");
        }
        return super.visitNewArray(tree, none);
    }

    private boolean isConstant(Tree tree) {
        if (tree instanceof LiteralTree) {
            return true;
        }
        if (tree instanceof BinaryTree two) {
            return isConstant(two.getLeftOperand()) && isConstant(two.getRightOperand());
        }
        return elementOf(tree) instanceof VariableElement named && named.getConstantValue() != null;
    }

    // ---- reckoning ----

    @Override
    public Void visitBinary(BinaryTree tree, Void none) {
        Tree.Kind kind = tree.getKind();
        boolean isOnFloats = isFloating(tree.getLeftOperand()) || isFloating(tree.getRightOperand());
        if (isOnFloats && !ON_FLOATS.contains(kind)) {
            tell(3, tree, kind + " on doubles or floats");
        }
        if (kind == Tree.Kind.PLUS && (isText(tree.getLeftOperand()) || isText(tree.getRightOperand()))) {
            tell(10, tree, "texts joined by +");
        }
        if ((kind == Tree.Kind.EQUAL_TO || kind == Tree.Kind.NOT_EQUAL_TO) && isText(tree.getLeftOperand())
                && isText(tree.getRightOperand())) {
            tell(6, tree, "== between two texts");
        }
        if (kind == Tree.Kind.DIVIDE || kind == Tree.Kind.REMAINDER) {
            needDivisor(tree.getRightOperand());
        }
        return super.visitBinary(tree, none);
    }

    @Override
    public Void visitCompoundAssignment(CompoundAssignmentTree tree, Void none) {
        Tree.Kind kind = tree.getKind();
        if (kind == Tree.Kind.DIVIDE_ASSIGNMENT || kind == Tree.Kind.REMAINDER_ASSIGNMENT) {
            needDivisor(tree.getExpression());
        }
        if (isText(tree.getVariable())) {
            tell(10, tree, "texts joined by +=");
        }
        needChangeable(tree.getVariable());
        return super.visitCompoundAssignment(tree, none);
    }

    /** A divisor is a constant, or it is compared with a number in the same method. */
    private void needDivisor(ExpressionTree divisor) {
        Tree bare = divisor;
        while (bare instanceof TypeCastTree || bare instanceof ParenthesizedTree) {
            bare = bare instanceof TypeCastTree cast ? cast.getExpression() : ((ParenthesizedTree) bare).getExpression();
        }
        if (isConstant(bare) && !bare.toString().equals("0")) {
            return;
        }
        String name = bare.toString();
        TreePath path = getCurrentPath();
        while (path != null && !(path.getLeaf() instanceof MethodTree)) {
            path = path.getParentPath();
        }
        String method = path == null ? "" : path.getLeaf().toString();
        if (!method.contains(name + " > 0") && !method.contains(name + " < 1")) {
            tell(7, divisor, "a divisor that is not looked at: " + name);
        }
    }

    @Override
    public Void visitAssignment(AssignmentTree tree, Void none) {
        needChangeable(tree.getVariable());
        return super.visitAssignment(tree, none);
    }

    @Override
    public Void visitUnary(UnaryTree tree, Void none) {
        if (Set.of(Tree.Kind.PREFIX_INCREMENT, Tree.Kind.PREFIX_DECREMENT, Tree.Kind.POSTFIX_INCREMENT,
                Tree.Kind.POSTFIX_DECREMENT).contains(tree.getKind())) {
            needChangeable(tree.getExpression());
        }
        return super.visitUnary(tree, none);
    }

    private void needChangeable(ExpressionTree variable) {
        if (variable instanceof ArrayAccessTree place) {
            Element row = elementOf(place.getExpression());
            if (row != null && row.getModifiers().contains(Modifier.STATIC)) {
                tell(5, variable, "a static row is changed");
            }
        }
    }

    @Override
    public Void visitTypeCast(TypeCastTree tree, Void none) {
        if (!typeOf(tree.getType()).getKind().isPrimitive()) {
            tell(7, tree, "a cast to " + tree.getType());
        }
        return super.visitTypeCast(tree, none);
    }

    // ---- what is thrown ----

    @Override
    public Void visitThrow(ThrowTree tree, Void none) {
        ExecutableElement method = caller();
        boolean isWritten = tree.getExpression() instanceof NewClassTree made
                && THROWN.contains(made.getIdentifier().toString()) && made.getClassBody() == null
                && (made.getArguments().isEmpty()
                        || made.getArguments().size() == 1 && made.getArguments().get(0) instanceof LiteralTree);
        if (!isWritten) {
            tell(6, tree, "thrown otherwise than as new E() or new E(\"a written text\")");
        } else if (method != null) {
            thrown.computeIfAbsent(method, key -> new TreeSet<>())
                    .add(((NewClassTree) tree.getExpression()).getIdentifier().toString());
        }
        if (method == null || method.getKind() == ElementKind.CONSTRUCTOR) {
            tell(6, tree, "thrown in a constructor");
        }
        return super.visitThrow(tree, none);
    }

    @Override
    public Void visitTry(TryTree tree, Void none) {
        tell(6, tree, "try: nothing in this class needs it");
        return super.visitTry(tree, none);
    }

    // ---- what is left out of the language ----

    @Override
    public Void visitLambdaExpression(LambdaExpressionTree tree, Void none) {
        tell(2, tree, "a lambda");
        return super.visitLambdaExpression(tree, none);
    }

    @Override
    public Void visitMemberReference(MemberReferenceTree tree, Void none) {
        tell(2, tree, "a method reference");
        return super.visitMemberReference(tree, none);
    }

    @Override
    public Void visitSynchronized(SynchronizedTree tree, Void none) {
        tell(6, tree, "synchronized");
        return super.visitSynchronized(tree, none);
    }

    @Override
    public Void visitAssert(AssertTree tree, Void none) {
        tell(6, tree, "assert");
        return super.visitAssert(tree, none);
    }

    @Override
    public Void visitSwitch(SwitchTree tree, Void none) {
        if (isText(((ParenthesizedTree) tree.getExpression()).getExpression())) {
            tell(10, tree, "switch on a text");
        }
        return super.visitSwitch(tree, none);
    }

    @Override
    public Void visitForLoop(ForLoopTree tree, Void none) {
        needEnd(tree, tree.getCondition());
        return super.visitForLoop(tree, none);
    }

    @Override
    public Void visitWhileLoop(WhileLoopTree tree, Void none) {
        needEnd(tree, ((ParenthesizedTree) tree.getCondition()).getExpression());
        return super.visitWhileLoop(tree, none);
    }

    @Override
    public Void visitDoWhileLoop(DoWhileLoopTree tree, Void none) {
        needEnd(tree, ((ParenthesizedTree) tree.getCondition()).getExpression());
        return super.visitDoWhileLoop(tree, none);
    }

    /** An end that is seen is a comparison with < or > that must hold for another round. */
    private void needEnd(Tree loop, ExpressionTree condition) {
        if (condition instanceof BinaryTree two) {
            if (Set.of(Tree.Kind.LESS_THAN, Tree.Kind.GREATER_THAN, Tree.Kind.LESS_THAN_EQUAL,
                    Tree.Kind.GREATER_THAN_EQUAL).contains(two.getKind())) {
                return;
            }
            if (two.getKind() == Tree.Kind.CONDITIONAL_AND) {
                needEnd(loop, two.getLeftOperand());
                return;
            }
        }
        tell(9, loop, "a loop whose end is not seen");
    }

    // ---- what is known when all has been seen ----

    private void afterAll() {
        if (classes > MOST_CLASSES) {
            tell(11, unit, classes + " classes");
        }
        Set<String> face = new HashSet<>();
        for (ExecutableElement method : calls.keySet()) {
            if (isOfFace(method)) {
                face.add(method.getSimpleName().toString());
                throwsWhatItSays(method);
            }
        }
        for (ExecutableElement method : calls.keySet()) {
            int depth = depth(method, new ArrayList<>());
            if (depth > MOST_DEPTH) {
                tell(11, trees.getTree(method), method + " goes " + depth + " deep");
            }
            if (!isOfFace(method) && face.contains(method.getSimpleName().toString())) {
                tell(1, trees.getTree(method), method + " bears a name of the face");
            }
        }
    }

    private boolean isOfFace(ExecutableElement method) {
        return method.getModifiers().contains(Modifier.PUBLIC) && method.getKind() == ElementKind.METHOD
                && method.getEnclosingElement().getEnclosingElement().getKind() == ElementKind.PACKAGE;
    }

    private void throwsWhatItSays(ExecutableElement method) {
        Set<String> said = new TreeSet<>();
        for (TypeMirror type : method.getThrownTypes()) {
            said.add(((DeclaredType) type).asElement().getSimpleName().toString());
        }
        Set<String> can = new TreeSet<>();
        Set<ExecutableElement> seen = new HashSet<>(Set.of(method));
        List<ExecutableElement> open = new ArrayList<>(seen);
        while (!open.isEmpty()) {
            ExecutableElement one = open.remove(open.size() - 1);
            can.addAll(thrown.getOrDefault(one, Set.of()));
            for (ExecutableElement next : calls.getOrDefault(one, Set.of())) {
                if (seen.add(next)) {
                    open.add(next);
                }
            }
        }
        if (!can.equals(said)) {
            tell(6, trees.getTree(method), method + " can throw " + can + ", but says " + said);
        }
    }

    /** How many calls stand open at once from this one on, itself included; it tells a recursion. */
    private int depth(ExecutableElement method, List<ExecutableElement> open) {
        if (open.contains(method)) {
            tell(8, trees.getTree(method), method + " comes to call itself");
            return 0;
        }
        open.add(method);
        int deepest = 0;
        for (ExecutableElement next : calls.getOrDefault(method, Set.of())) {
            deepest = Math.max(deepest, depth(next, open));
        }
        open.remove(open.size() - 1);
        return deepest + 1;
    }
}
