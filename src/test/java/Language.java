import com.sun.source.tree.*;
import com.sun.source.util.JavacTask;
import com.sun.source.util.TreePath;
import com.sun.source.util.TreePathScanner;
import com.sun.source.util.Trees;
import java.net.URI;
import java.util.ArrayList;
import java.util.HashMap;
import java.util.HashSet;
import java.util.List;
import java.util.Map;
import java.util.Set;
import java.util.TreeSet;
import javax.lang.model.element.Element;
import javax.lang.model.element.ElementKind;
import javax.lang.model.element.Modifier;
import javax.lang.model.element.TypeElement;
import javax.lang.model.type.ArrayType;
import javax.lang.model.type.DeclaredType;
import javax.lang.model.type.TypeKind;
import javax.lang.model.type.TypeMirror;
import javax.tools.DiagnosticCollector;
import javax.tools.JavaFileObject;
import javax.tools.SimpleJavaFileObject;
import javax.tools.ToolProvider;

/**
 * Reads a program as javac does and tells where it leaves LANGUAGE.md. It is stricter where that is simpler to tell:
 * objects are made for constructors alone, nothing but numbers is cast, every loop compares a counter.
 */
final class Language extends TreePathScanner<Void, Void> {
    private static final Set<String> LIBRARY = Set.of(
        "String.length", "String.charAt", "String.isEmpty", "String.equals", "String.indexOf", "String.substring",
        "String.toCharArray", "StringBuilder.append", "StringBuilder.charAt", "StringBuilder.setCharAt",
        "StringBuilder.setLength", "StringBuilder.deleteCharAt", "StringBuilder.reverse", "StringBuilder.length",
        "StringBuilder.toString", "Integer.compare", "Integer.bitCount", "Long.compare", "Long.bitCount", "Math.max",
        "Math.min", "Math.abs", "Math.floorDiv", "Math.floorMod", "System.arraycopy", "Arrays.copyOf",
        "Arrays.copyOfRange", "Arrays.fill", "Object.<init>");
    private static final Set<String> TYPES = Set.of("java.lang.String", "java.lang.StringBuilder",
        "java.lang.Integer", "java.util.List", "java.util.ArrayList");
    private static final Set<Tree.Kind> COMPARED = Set.of(Tree.Kind.LESS_THAN, Tree.Kind.LESS_THAN_EQUAL,
        Tree.Kind.GREATER_THAN, Tree.Kind.GREATER_THAN_EQUAL);

    private final Set<String> faults = new TreeSet<>();
    private final Map<Element, Set<Element>> calls = new HashMap<>();
    private final Map<Element, MethodTree> methods = new HashMap<>();
    private CompilationUnitTree unit;
    private Trees trees;
    private Element method;
    private int classes;

    private Language() {
    }

    /** "rule N: what, line n" for each fault; also what javac finds. */
    static Set<String> faultsOf(String name, String source) throws Exception {
        Language language = new Language();
        JavaFileObject file = new SimpleJavaFileObject(URI.create("string:///" + name + ".java"),
                JavaFileObject.Kind.SOURCE) {
            @Override
            public CharSequence getCharContent(boolean lenient) {
                return source;
            }
        };
        DiagnosticCollector<JavaFileObject> told = new DiagnosticCollector<>();
        JavacTask task = (JavacTask) ToolProvider.getSystemJavaCompiler()
            .getTask(null, null, told, List.of("-proc:none"), null, List.of(file));
        language.trees = Trees.instance(task);
        List<CompilationUnitTree> units = new ArrayList<>();
        task.parse().forEach(units::add);
        task.analyze();
        told.getDiagnostics().forEach(one -> language.faults.add("javac: " + one));
        for (CompilationUnitTree one : units) {
            language.unit = one;
            language.scan(one, null);
        }
        language.recursions();
        language.depths();
        return language.faults;
    }

    private void fault(int rule, String what, Tree tree) {
        faults.add("rule " + rule + ": " + what + ", line " + line(tree, false));
    }

    private long line(Tree tree, boolean end) {
        var positions = trees.getSourcePositions();
        long at = end ? positions.getEndPosition(unit, tree) : positions.getStartPosition(unit, tree);
        return unit.getLineMap().getLineNumber(Math.max(0, at));
    }

    private Element elementOf(Tree tree) {
        return trees.getElement(new TreePath(getCurrentPath(), tree));
    }

    private TypeMirror typeOf(Tree tree) {
        return trees.getTypeMirror(new TreePath(getCurrentPath(), tree));
    }

    private static String nameOf(TypeMirror type) {
        return type instanceof DeclaredType ? ((DeclaredType) type).asElement().toString() : type + "";
    }

    private boolean isOwn(Element element) {
        return element != null && trees.getTree(element) != null;
    }

    // ---- the file, its classes, their members

    @Override
    public Void visitCompilationUnit(CompilationUnitTree tree, Void none) {
        if (tree.getPackage() != null) {
            fault(1, "a package line", tree);
        }
        for (ImportTree one : tree.getImports()) {
            String name = one.getQualifiedIdentifier().toString();
            if (one.isStatic() || !Set.of("java.util.ArrayList", "java.util.List", "java.util.Iterator",
                    "java.util.Arrays").contains(name)) {
                fault(4, "import " + name, one);
            }
        }
        return super.visitCompilationUnit(tree, none);
    }

    @Override
    public Void visitClass(ClassTree tree, Void none) {
        classes++;
        Tree around = getCurrentPath().getParentPath().getLeaf();
        boolean top = around.getKind() == Tree.Kind.COMPILATION_UNIT;
        Set<Modifier> flags = tree.getModifiers().getFlags();
        if (!top && tree.getKind() == Tree.Kind.CLASS && !flags.contains(Modifier.STATIC)) {
            fault(2, "a class inside that isn't static", tree);
        }
        if (top != flags.contains(Modifier.PUBLIC) || flags.contains(Modifier.PROTECTED)) {
            fault(1, "class " + tree.getSimpleName() + ", one is public and no other", tree);
        }
        int fields = 0;
        for (Tree member : tree.getMembers()) {
            if (member instanceof BlockTree && ((BlockTree) member).isStatic()) {
                fault(5, "a static block", member);
            }
            boolean isField = member instanceof VariableTree;
            fields += isField && !((VariableTree) member).getModifiers().getFlags().contains(Modifier.STATIC) ? 1 : 0;
        }
        if (fields > 20 || classes > 12) {
            fault(11, fields + " fields, " + classes + " classes", tree);
        }
        return super.visitClass(tree, none);
    }

    @Override
    public Void visitMethod(MethodTree tree, Void none) {
        Element before = method;
        method = trees.getElement(getCurrentPath());
        methods.put(method, tree);
        calls.putIfAbsent(method, new HashSet<>());
        if (Set.of("equals", "hashCode", "toString").contains(tree.getName().toString())) {
            fault(6, tree.getName() + "()", tree);
        }
        long lines = line(tree, true) - line(tree, false) + 1;
        if (tree.getParameters().size() > 7 || lines > 60) {
            fault(11, tree.getName() + " has " + tree.getParameters().size() + " parameters, " + lines + " lines",
                tree);
        }
        super.visitMethod(tree, none);
        method = before;
        return null;
    }

    @Override
    public Void visitVariable(VariableTree tree, Void none) {
        TypeMirror type = trees.getTypeMirror(getCurrentPath());
        if (type != null && !mayBe(type)) {
            fault(3, "type " + type, tree);
        }
        Set<Modifier> flags = tree.getModifiers().getFlags();
        boolean isField = trees.getElement(getCurrentPath()).getKind() == ElementKind.FIELD;
        if (isField && flags.contains(Modifier.STATIC) && !isConstant(tree, type)) {
            fault(5, "static " + tree.getName(), tree);
        }
        return super.visitVariable(tree, none);
    }

    private boolean mayBe(TypeMirror type) {
        if (type.getKind().isPrimitive() || type.getKind() == TypeKind.TYPEVAR) {
            return true;
        }
        if (type.getKind() == TypeKind.ARRAY) {
            TypeMirror part = ((ArrayType) type).getComponentType();
            boolean rows = part.getKind() == TypeKind.ARRAY;
            return rows ? ((ArrayType) part).getComponentType().getKind().isPrimitive() : mayBe(part);
        }
        return TYPES.contains(nameOf(type))
            || type instanceof DeclaredType && isOwn(((DeclaredType) type).asElement());
    }

    private boolean isConstant(VariableTree tree, TypeMirror type) {
        boolean isFinal = tree.getModifiers().getFlags().contains(Modifier.FINAL);
        boolean isRow = type.getKind() == TypeKind.ARRAY && tree.getInitializer() instanceof NewArrayTree
            && ((NewArrayTree) tree.getInitializer()).getInitializers() != null
            && Set.of("int[]", "long[]", "char[]", "byte[]").contains(type.toString());
        boolean isNumber = type.getKind().isPrimitive() || nameOf(type).equals("java.lang.String");
        return isFinal && tree.getInitializer() != null && (isRow || isNumber);
    }

    // ---- what is left out of Java

    @Override
    public Void visitThrow(ThrowTree tree, Void none) {
        fault(6, "throw", tree);
        return super.visitThrow(tree, none);
    }

    @Override
    public Void visitTry(TryTree tree, Void none) {
        fault(6, "try", tree);
        return super.visitTry(tree, none);
    }

    @Override
    public Void visitSynchronized(SynchronizedTree tree, Void none) {
        fault(6, "synchronized", tree);
        return super.visitSynchronized(tree, none);
    }

    @Override
    public Void visitAssert(AssertTree tree, Void none) {
        fault(6, "assert", tree);
        return super.visitAssert(tree, none);
    }

    @Override
    public Void visitLambdaExpression(LambdaExpressionTree tree, Void none) {
        fault(2, "a lambda", tree);
        return super.visitLambdaExpression(tree, none);
    }

    @Override
    public Void visitMemberReference(MemberReferenceTree tree, Void none) {
        fault(2, "a method reference", tree);
        return super.visitMemberReference(tree, none);
    }

    @Override
    public Void visitTypeCast(TypeCastTree tree, Void none) {
        if (!typeOf(tree.getType()).getKind().isPrimitive()) {
            fault(6, "a cast to " + tree.getType(), tree);
        }
        return super.visitTypeCast(tree, none);
    }

    @Override
    public Void visitBinary(BinaryTree tree, Void none) {
        String left = nameOf(typeOf(tree.getLeftOperand())), right = nameOf(typeOf(tree.getRightOperand()));
        Set<String> texts = Set.of("java.lang.String", "java.lang.Integer");
        boolean same = tree.getKind() == Tree.Kind.EQUAL_TO || tree.getKind() == Tree.Kind.NOT_EQUAL_TO;
        if (same && texts.contains(left) && texts.contains(right)) {
            fault(6, "" + tree, tree);
        }
        boolean joined = left.equals("java.lang.String") || right.equals("java.lang.String");
        if (tree.getKind() == Tree.Kind.PLUS && joined) {
            fault(10, "texts joined by +", tree);
        }
        return super.visitBinary(tree, none);
    }

    @Override
    public Void visitCompoundAssignment(CompoundAssignmentTree tree, Void none) {
        if (nameOf(typeOf(tree.getVariable())).equals("java.lang.String")) {
            fault(10, "texts joined by +=", tree);
        }
        changed(tree.getVariable());
        return super.visitCompoundAssignment(tree, none);
    }

    @Override
    public Void visitAssignment(AssignmentTree tree, Void none) {
        changed(tree.getVariable());
        return super.visitAssignment(tree, none);
    }

    @Override
    public Void visitUnary(UnaryTree tree, Void none) {
        if (!Set.of(Tree.Kind.UNARY_MINUS, Tree.Kind.UNARY_PLUS, Tree.Kind.LOGICAL_COMPLEMENT,
                Tree.Kind.BITWISE_COMPLEMENT).contains(tree.getKind())) {
            changed(tree.getExpression());
        }
        return super.visitUnary(tree, none);
    }

    private void changed(ExpressionTree target) {
        if (target instanceof ArrayAccessTree) {
            Element row = elementOf(((ArrayAccessTree) target).getExpression());
            if (row != null && row.getModifiers().contains(Modifier.STATIC)) {
                fault(5, row + " is changed", target);
            }
        }
    }

    @Override
    public Void visitLiteral(LiteralTree tree, Void none) {
        if (tree.getValue() instanceof String
                && !((String) tree.getValue()).chars().allMatch(sign -> sign >= 1 && sign <= 127)) {
            fault(4, "a sign in a text", tree);
        }
        return super.visitLiteral(tree, none);
    }

    // ---- loops, calls, what is made

    @Override
    public Void visitForLoop(ForLoopTree tree, Void none) {
        bounded(tree.getCondition(), tree);
        return super.visitForLoop(tree, none);
    }

    @Override
    public Void visitWhileLoop(WhileLoopTree tree, Void none) {
        bounded(tree.getCondition(), tree);
        return super.visitWhileLoop(tree, none);
    }

    @Override
    public Void visitDoWhileLoop(DoWhileLoopTree tree, Void none) {
        bounded(tree.getCondition(), tree);
        return super.visitDoWhileLoop(tree, none);
    }

    private void bounded(ExpressionTree condition, Tree loop) {
        Tree left = condition;
        while (left instanceof ParenthesizedTree) {
            left = ((ParenthesizedTree) left).getExpression();
        }
        // Only what is joined by && ends the loop whatever the rest is.
        if (left instanceof BinaryTree && left.getKind() == Tree.Kind.CONDITIONAL_AND) {
            int before = faults.size();
            Set<String> kept = new TreeSet<>(faults);
            bounded(((BinaryTree) left).getLeftOperand(), loop);
            if (faults.size() > before) {
                faults.retainAll(kept);
                bounded(((BinaryTree) left).getRightOperand(), loop);
            }
        } else if (left == null || !COMPARED.contains(left.getKind())) {
            fault(9, "a loop whose end can't be seen", loop);
        }
    }

    @Override
    public Void visitMethodInvocation(MethodInvocationTree tree, Void none) {
        Element called = trees.getElement(getCurrentPath());
        if (isOwn(called) && method != null) {
            calls.computeIfAbsent(method, key -> new HashSet<>()).add(called);
        } else if (called != null && !isOwn(called)) {
            String owner = ((TypeElement) called.getEnclosingElement()).getSimpleName().toString();
            if (!LIBRARY.contains(owner + "." + called.getSimpleName())) {
                fault(4, owner + "." + called.getSimpleName(), tree);
            }
        }
        return super.visitMethodInvocation(tree, none);
    }

    @Override
    public Void visitNewClass(NewClassTree tree, Void none) {
        made(tree);
        return super.visitNewClass(tree, none);
    }

    @Override
    public Void visitNewArray(NewArrayTree tree, Void none) {
        made(tree);
        return super.visitNewArray(tree, none);
    }

    private void made(Tree tree) {
        if (method != null && method.getKind() != ElementKind.CONSTRUCTOR) {
            fault(12, method.getSimpleName() + " makes an object", tree);
        }
    }

    // ---- how deep calls go

    private Set<Element> reached(Element from) {
        Set<Element> seen = new HashSet<>();
        List<Element> left = new ArrayList<>(calls.getOrDefault(from, Set.of()));
        while (!left.isEmpty()) {
            Element next = left.remove(left.size() - 1);
            if (seen.add(next)) {
                left.addAll(calls.getOrDefault(next, Set.of()));
            }
        }
        return seen;
    }

    /** Those that call one another with it, itself among them. */
    private Set<Element> circle(Element one) {
        Set<Element> all = new HashSet<>(Set.of(one));
        for (Element other : reached(one)) {
            if (reached(other).contains(one)) {
                all.add(other);
            }
        }
        return all;
    }

    private void recursions() {
        for (Element one : methods.keySet()) {
            boolean guarded = methods.get(one).getParameters().stream()
                .anyMatch(parameter -> parameter.getName().contentEquals("depth"));
            if (reached(one).contains(one) && !guarded) {
                fault(8, one + " calls itself without a depth", methods.get(one));
            }
        }
    }

    private void depths() {
        Map<Element, Integer> known = new HashMap<>();
        for (Element one : methods.keySet()) {
            int depth = depth(one, known);
            if (depth > 8) {
                fault(11, one + " goes " + depth + " deep", methods.get(one));
            }
        }
    }

    /** Each of those that call one another counts once. */
    private int depth(Element one, Map<Element, Integer> known) {
        if (known.containsKey(one)) {
            return known.get(one);
        }
        Set<Element> circle = circle(one);
        int below = 0;
        for (Element own : circle) {
            for (Element called : calls.getOrDefault(own, Set.of())) {
                below = circle.contains(called) ? below : Math.max(below, depth(called, known));
            }
        }
        known.put(one, circle.size() + below);
        return circle.size() + below;
    }
}
