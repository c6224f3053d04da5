import com.sun.source.tree.ArrayAccessTree;
import com.sun.source.tree.AssertTree;
import com.sun.source.tree.AssignmentTree;
import com.sun.source.tree.BinaryTree;
import com.sun.source.tree.BlockTree;
import com.sun.source.tree.ClassTree;
import com.sun.source.tree.CompilationUnitTree;
import com.sun.source.tree.CompoundAssignmentTree;
import com.sun.source.tree.DoWhileLoopTree;
import com.sun.source.tree.ExpressionTree;
import com.sun.source.tree.ForLoopTree;
import com.sun.source.tree.IdentifierTree;
import com.sun.source.tree.ImportTree;
import com.sun.source.tree.LambdaExpressionTree;
import com.sun.source.tree.LiteralTree;
import com.sun.source.tree.MemberReferenceTree;
import com.sun.source.tree.MethodInvocationTree;
import com.sun.source.tree.MethodTree;
import com.sun.source.tree.NewArrayTree;
import com.sun.source.tree.NewClassTree;
import com.sun.source.tree.SynchronizedTree;
import com.sun.source.tree.ThrowTree;
import com.sun.source.tree.Tree;
import com.sun.source.tree.TryTree;
import com.sun.source.tree.TypeCastTree;
import com.sun.source.tree.UnaryTree;
import com.sun.source.tree.VariableTree;
import com.sun.source.tree.WhileLoopTree;
import com.sun.source.util.JavacTask;
import com.sun.source.util.TreePath;
import com.sun.source.util.TreePathScanner;
import com.sun.source.util.TreeScanner;
import com.sun.source.util.Trees;
import java.net.URI;
import java.util.ArrayList;
import java.util.HashMap;
import java.util.HashSet;
import java.util.LinkedHashMap;
import java.util.LinkedHashSet;
import java.util.List;
import java.util.Map;
import java.util.Set;
import javax.lang.model.element.Element;
import javax.lang.model.element.ElementKind;
import javax.lang.model.element.ExecutableElement;
import javax.lang.model.element.Modifier;
import javax.lang.model.element.TypeElement;
import javax.lang.model.element.VariableElement;
import javax.lang.model.type.ArrayType;
import javax.lang.model.type.DeclaredType;
import javax.lang.model.type.TypeKind;
import javax.lang.model.type.TypeMirror;
import javax.tools.Diagnostic;
import javax.tools.DiagnosticCollector;
import javax.tools.JavaCompiler;
import javax.tools.JavaFileObject;
import javax.tools.SimpleJavaFileObject;
import javax.tools.ToolProvider;

/**
 * Reads a program as the compiler does and tells which of the rules of ../shared/LANGUAGE.md it breaks. Where a rule
 * leaves more than this program needs (doubles, casts of objects, objects made by any method), the narrower is
 * asked, as it can be seen without weighing. Rule 7 is looked at by running the program (GridTest, RandomTest).
 */
final class Language extends TreePathScanner<Void, Void> {
    private static final Set<String> LIBRARY = Set.of(
        "String.length", "String.charAt", "String.isEmpty", "String.equals", "String.indexOf", "String.substring", "String.toCharArray",
        "StringBuilder.append", "StringBuilder.charAt", "StringBuilder.setCharAt", "StringBuilder.setLength", "StringBuilder.deleteCharAt",
        "StringBuilder.reverse", "StringBuilder.length", "StringBuilder.toString",
        "ArrayList.add", "ArrayList.get", "ArrayList.set", "ArrayList.remove", "ArrayList.size", "ArrayList.isEmpty", "ArrayList.clear",
        "List.add", "List.get", "List.set", "List.remove", "List.size", "List.isEmpty", "List.clear", "List.of",
        "Math.min", "Math.max", "Math.abs", "Math.floorDiv", "Math.floorMod", "Integer.compare", "Integer.min", "Integer.max",
        "Integer.bitCount", "Long.compare", "Long.min", "Long.max", "Long.bitCount", "System.arraycopy", "Arrays.copyOf",
        "Arrays.copyOfRange", "Arrays.fill");
    private static final Set<String> LIBRARY_TYPES = Set.of("String", "StringBuilder", "Integer", "ArrayList", "List", "Iterator", "Iterable", "Comparable");
    private static final Set<TypeKind> OF_STATICS = Set.of(TypeKind.INT, TypeKind.LONG, TypeKind.BOOLEAN, TypeKind.CHAR);
    private static final Set<TypeKind> OF_STATIC_ROWS = Set.of(TypeKind.INT, TypeKind.LONG, TypeKind.CHAR, TypeKind.BYTE);
    private static final int PARAMETERS = 7, LINES = 60, CLASSES = 12, FIELDS = 20, DEEP = 8;

    private final String text;
    private final Set<String> broken = new LinkedHashSet<>();
    private final Map<ExecutableElement, Set<ExecutableElement>> calls = new LinkedHashMap<>();
    private final Map<ExecutableElement, MethodTree> methods = new HashMap<>();
    private CompilationUnitTree unit;
    private Trees trees;
    private int classes = 0;

    private Language(String text) {
        this.text = text;
    }

    /** The rules that a program (one that compiles) breaks, each with the line: "6 line 12: throw". */
    static List<String> brokenBy(String text) throws Exception {
        Language language = new Language(text);
        language.read();
        return new ArrayList<>(language.broken);
    }

    private void read() throws Exception {
        JavaCompiler compiler = ToolProvider.getSystemJavaCompiler();
        JavaFileObject file = new SimpleJavaFileObject(URI.create("string:///NeverSeen.java"), JavaFileObject.Kind.SOURCE) {
            @Override
            public CharSequence getCharContent(boolean ignoreErrors) {
                return text;
            }
        };
        DiagnosticCollector<JavaFileObject> told = new DiagnosticCollector<>();
        JavacTask task = (JavacTask) compiler.getTask(null, null, told, List.of("-proc:none"), null, List.of(file));
        unit = task.parse().iterator().next();
        task.analyze();
        for (Diagnostic<?> one : told.getDiagnostics()) {
            if (one.getKind() == Diagnostic.Kind.ERROR) {
                throw new IllegalArgumentException(one + " in " + text);
            }
        }
        trees = Trees.instance(task);
        signs();
        scan(new TreePath(unit), null);
        if (classes > CLASSES) {
            broken.add("11: " + classes + " classes");
        }
        recursion();
        depth();
    }

    private void breaks(int rule, Tree tree, String what) {
        long at = trees.getSourcePositions().getStartPosition(unit, tree);
        broken.add(rule + " line " + unit.getLineMap().getLineNumber(at) + ": " + what);
    }

    private void signs() {
        for (int i = 0; i < text.length(); i++) {
            if (text.charAt(i) < 1 || text.charAt(i) > 127) {
                broken.add("4: a sign that is " + (int) text.charAt(i));
            }
        }
    }

    private Element element(Tree tree) {
        return trees.getElement(new TreePath(getCurrentPath(), tree));
    }

    private TypeMirror type(Tree tree) {
        return trees.getTypeMirror(new TreePath(getCurrentPath(), tree));
    }

    private static boolean isOwn(Element e) {
        Element each = e;
        while (each != null && each.getKind() != ElementKind.PACKAGE) {
            if (each.getSimpleName().contentEquals("NeverSeen")) {
                return true;
            }
            each = each.getEnclosingElement();
        }
        return false;
    }

    private static boolean isString(TypeMirror t) {
        return t != null && t.toString().equals("java.lang.String");
    }

    private static boolean isInteger(TypeMirror t) {
        return t != null && t.toString().equals("java.lang.Integer");
    }

    // ---- 1, 2, 11: classes and what they have

    @Override
    public Void visitCompilationUnit(CompilationUnitTree node, Void none) {
        if (node.getPackage() != null) {
            breaks(1, node, "a package");
        }
        if (node.getTypeDecls().size() != 1) {
            breaks(1, node, "classes beside the one");
        }
        return super.visitCompilationUnit(node, none);
    }

    @Override
    public Void visitImport(ImportTree node, Void none) {
        String name = node.getQualifiedIdentifier().toString();
        if (!Set.of("java.util.ArrayList", "java.util.List", "java.util.Arrays", "java.util.Iterator").contains(name)) {
            breaks(4, node, "import of " + name);
        }
        return null;
    }

    @Override
    public Void visitClass(ClassTree node, Void none) {
        classes++;
        Element e = trees.getElement(getCurrentPath());
        boolean outer = getCurrentPath().getParentPath().getLeaf() instanceof CompilationUnitTree;
        boolean inside = getCurrentPath().getParentPath().getLeaf() instanceof ClassTree;
        if (outer) {
            face(node, (TypeElement) e);
        } else if (!inside) {
            breaks(2, node, "a local or anonymous class");
        } else if (!e.getModifiers().contains(Modifier.STATIC)) {
            breaks(2, node, "an inner class");
        }
        if (inside && (e.getModifiers().contains(Modifier.PUBLIC) || e.getModifiers().contains(Modifier.PROTECTED))) {
            breaks(1, node, "a class inside that can be seen");
        }
        int fields = 0;
        for (Tree member : node.getMembers()) {
            if (member instanceof BlockTree) {
                breaks(((BlockTree) member).isStatic() ? 5 : 12, member, "a block ahead of constructors");
            }
            if (member instanceof VariableTree && !((VariableTree) member).getModifiers().getFlags().contains(Modifier.STATIC)) {
                fields++;
            }
        }
        if (fields > FIELDS) {
            breaks(11, node, fields + " fields");
        }
        return super.visitClass(node, none);
    }

    private void face(ClassTree node, TypeElement e) {
        if (!e.getModifiers().containsAll(Set.of(Modifier.PUBLIC, Modifier.FINAL))) {
            breaks(1, node, "not public and final");
        }
        Set<String> seen = new HashSet<>();
        Set<String> hidden = new HashSet<>();
        for (Element member : e.getEnclosedElements()) {
            boolean isPublic = member.getModifiers().contains(Modifier.PUBLIC);
            boolean isPrivate = member.getModifiers().contains(Modifier.PRIVATE);
            if (!isPublic && !isPrivate && !(member instanceof TypeElement)) {
                breaks(1, node, "a member that can be seen: " + member);
            }
            if (member.getKind() == ElementKind.METHOD) {
                (isPublic ? seen : hidden).add(member.getSimpleName().toString());
            }
        }
        hidden.retainAll(seen);
        if (!hidden.isEmpty()) {
            breaks(1, node, "private methods with names of public ones: " + hidden);
        }
    }

    @Override
    public Void visitMethod(MethodTree node, Void none) {
        ExecutableElement e = (ExecutableElement) trees.getElement(getCurrentPath());
        methods.put(e, node);
        calls.putIfAbsent(e, new LinkedHashSet<>());
        if (node.getParameters().size() > PARAMETERS) {
            breaks(11, node, node.getParameters().size() + " parameters");
        }
        long from = trees.getSourcePositions().getStartPosition(unit, node);
        long to = trees.getSourcePositions().getEndPosition(unit, node);
        if (from >= 0 && to >= 0 && unit.getLineMap().getLineNumber(to) - unit.getLineMap().getLineNumber(from) >= LINES) {
            breaks(11, node, "a long method");
        }
        if (Set.of("equals", "hashCode", "toString").contains(node.getName().toString())) {
            breaks(6, node, node.getName().toString());
        }
        if (!node.getThrows().isEmpty()) {
            breaks(6, node, "throws");
        }
        return super.visitMethod(node, none);
    }

    @Override
    public Void visitLambdaExpression(LambdaExpressionTree node, Void none) {
        breaks(2, node, "a lambda");
        return super.visitLambdaExpression(node, none);
    }

    @Override
    public Void visitMemberReference(MemberReferenceTree node, Void none) {
        breaks(2, node, "a method reference");
        return super.visitMemberReference(node, none);
    }

    // ---- 3, 5: types, statics

    @Override
    public Void visitVariable(VariableTree node, Void none) {
        VariableElement e = (VariableElement) trees.getElement(getCurrentPath());
        looksAtType(node, e.asType());
        if (e.getKind() == ElementKind.FIELD && e.getModifiers().contains(Modifier.STATIC)) {
            looksAtStatic(node, e);
        }
        return super.visitVariable(node, none);
    }

    private void looksAtType(Tree node, TypeMirror t) {
        int rows = 0;
        TypeMirror each = t;
        while (each.getKind() == TypeKind.ARRAY) {
            each = ((ArrayType) each).getComponentType();
            rows++;
        }
        if (rows > 2 || rows == 2 && !each.getKind().isPrimitive()) {
            breaks(3, node, "an array of " + rows + " dimensions");
        }
        if (each.getKind() == TypeKind.DOUBLE || each.getKind() == TypeKind.FLOAT) {
            breaks(3, node, "a double or float");
        }
        if (each.getKind() == TypeKind.DECLARED) {
            Element declared = ((DeclaredType) each).asElement();
            if (!isOwn(declared) && !LIBRARY_TYPES.contains(declared.getSimpleName().toString())) {
                breaks(3, node, "the type " + each);
            }
        }
    }

    private void looksAtStatic(VariableTree node, VariableElement e) {
        TypeMirror t = e.asType();
        if (!e.getModifiers().contains(Modifier.FINAL)) {
            breaks(5, node, "a static field that isn't final");
        }
        if (t.getKind() == TypeKind.ARRAY) {
            boolean written = node.getInitializer() instanceof NewArrayTree && ((NewArrayTree) node.getInitializer()).getInitializers() != null;
            if (!written || !OF_STATIC_ROWS.contains(((ArrayType) t).getComponentType().getKind())) {
                breaks(5, node, "a static row that isn't written out");
            }
        } else if (!isString(t) && !OF_STATICS.contains(t.getKind())) {
            breaks(5, node, "a static " + t);
        }
    }

    /** Whether it is a static row: such a one is only read item by item, or asked for its length. */
    private boolean isStaticRow(Tree tree) {
        Element e = element(tree);
        return e != null && e.getKind() == ElementKind.FIELD && e.getModifiers().contains(Modifier.STATIC) && e.asType().getKind() == TypeKind.ARRAY;
    }

    private void changes(Tree node, ExpressionTree what) {
        if (what instanceof ArrayAccessTree && isStaticRow(((ArrayAccessTree) what).getExpression())) {
            breaks(5, node, "a static row that is changed");
        }
    }

    @Override
    public Void visitAssignment(AssignmentTree node, Void none) {
        changes(node, node.getVariable());
        return super.visitAssignment(node, none);
    }

    // ---- 4, 12: what is called and made

    @Override
    public Void visitMethodInvocation(MethodInvocationTree node, Void none) {
        ExecutableElement called = (ExecutableElement) element(node);
        ExecutableElement caller = callerOf();
        for (ExpressionTree argument : node.getArguments()) {
            if (isStaticRow(argument)) {
                breaks(5, node, "a static row that is handed out");
            }
        }
        handsOutItself(node, node.getArguments());
        boolean constructor = called != null && called.getKind() == ElementKind.CONSTRUCTOR;
        if (called == null) {
            breaks(4, node, "a call of nothing known");
        } else if (!isOwn(called) && !constructor) {
            String name = called.getEnclosingElement().getSimpleName() + "." + called.getSimpleName();
            if (!LIBRARY.contains(name) && !isCloneOfARow(called, node)) {
                breaks(name.matches(".*\\.(equals|hashCode|toString)") ? 6 : 4, node, name);
            }
        } else if (caller != null && !constructor) {
            calls.computeIfAbsent(caller, c -> new LinkedHashSet<>()).add(called);
        }
        return super.visitMethodInvocation(node, none);
    }

    private boolean isCloneOfARow(ExecutableElement called, MethodInvocationTree node) {
        return called.getSimpleName().contentEquals("clone") && node.getMethodSelect().toString().endsWith(".clone") && type(node).getKind() == TypeKind.ARRAY;
    }

    private ExecutableElement callerOf() {
        TreePath path = getCurrentPath();
        while (path != null && !(path.getLeaf() instanceof MethodTree)) {
            path = path.getParentPath();
        }
        return path == null ? null : (ExecutableElement) trees.getElement(path);
    }

    private void handsOutItself(Tree node, List<? extends ExpressionTree> arguments) {
        ExecutableElement caller = callerOf();
        for (ExpressionTree argument : arguments) {
            boolean isThis = argument instanceof IdentifierTree && ((IdentifierTree) argument).getName().contentEquals("this");
            if (isThis && (caller == null || caller.getKind() == ElementKind.CONSTRUCTOR)) {
                breaks(12, node, "a constructor that hands out its object");
            }
        }
    }

    private void makes(Tree node) {
        ExecutableElement caller = callerOf();
        if (caller != null && caller.getKind() != ElementKind.CONSTRUCTOR) {
            breaks(12, node, "an object that is made by a call");
        }
    }

    @Override
    public Void visitNewClass(NewClassTree node, Void none) {
        Element made = element(node.getIdentifier());
        if (made != null && !isOwn(made) && !LIBRARY_TYPES.contains(made.getSimpleName().toString())) {
            breaks(4, node, "new " + made);
        }
        handsOutItself(node, node.getArguments());
        makes(node);
        return super.visitNewClass(node, none);
    }

    @Override
    public Void visitNewArray(NewArrayTree node, Void none) {
        makes(node);
        return super.visitNewArray(node, none);
    }

    // ---- 6, 10: what is said with them

    @Override
    public Void visitThrow(ThrowTree node, Void none) {
        breaks(6, node, "throw");
        return super.visitThrow(node, none);
    }

    @Override
    public Void visitTry(TryTree node, Void none) {
        breaks(6, node, "try");
        return super.visitTry(node, none);
    }

    @Override
    public Void visitSynchronized(SynchronizedTree node, Void none) {
        breaks(6, node, "synchronized");
        return super.visitSynchronized(node, none);
    }

    @Override
    public Void visitAssert(AssertTree node, Void none) {
        breaks(6, node, "assert");
        return super.visitAssert(node, none);
    }

    @Override
    public Void visitTypeCast(TypeCastTree node, Void none) {
        TypeMirror t = type(node);
        if (!t.getKind().isPrimitive() || !type(node.getExpression()).getKind().isPrimitive()) {
            breaks(6, node, "a cast to " + t);
        }
        return super.visitTypeCast(node, none);
    }

    @Override
    public Void visitBinary(BinaryTree node, Void none) {
        TypeMirror left = type(node.getLeftOperand());
        TypeMirror right = type(node.getRightOperand());
        boolean same = node.getKind() == Tree.Kind.EQUAL_TO || node.getKind() == Tree.Kind.NOT_EQUAL_TO;
        if (same && (isString(left) && isString(right) || isInteger(left) && isInteger(right))) {
            breaks(6, node, "== between two texts");
        }
        if (node.getKind() == Tree.Kind.PLUS && (isString(left) || isString(right))) {
            breaks(10, node, "texts joined by +");
        }
        return super.visitBinary(node, none);
    }

    @Override
    public Void visitCompoundAssignment(CompoundAssignmentTree node, Void none) {
        changes(node, node.getVariable());
        if (isString(type(node.getVariable()))) {
            breaks(10, node, "texts joined by +=");
        }
        return super.visitCompoundAssignment(node, none);
    }

    @Override
    public Void visitUnary(UnaryTree node, Void none) {
        if (node.getKind() != Tree.Kind.UNARY_MINUS && node.getKind() != Tree.Kind.LOGICAL_COMPLEMENT) {
            changes(node, node.getExpression());
        }
        return super.visitUnary(node, none);
    }

    @Override
    public Void visitLiteral(LiteralTree node, Void none) {
        Object value = node.getValue();
        if (value instanceof Double || value instanceof Float) {
            breaks(3, node, "a double or float");
        }
        if (value instanceof String || value instanceof Character) {
            for (char sign : value.toString().toCharArray()) {
                if (sign < 1 || sign > 127) {
                    breaks(4, node, "a sign that is " + (int) sign);
                }
            }
        }
        return super.visitLiteral(node, none);
    }

    // ---- 9: loops

    @Override
    public Void visitForLoop(ForLoopTree node, Void none) {
        loop(node, node.getCondition(), node.getUpdate());
        return super.visitForLoop(node, none);
    }

    @Override
    public Void visitWhileLoop(WhileLoopTree node, Void none) {
        loop(node, node.getCondition(), List.of(node.getStatement()));
        return super.visitWhileLoop(node, none);
    }

    @Override
    public Void visitDoWhileLoop(DoWhileLoopTree node, Void none) {
        loop(node, node.getCondition(), List.of(node.getStatement()));
        return super.visitDoWhileLoop(node, none);
    }

    /** A part of the condition that must hold compares a counter, and the counter is counted. */
    private void loop(Tree node, ExpressionTree condition, List<? extends Tree> steps) {
        Set<String> counted = new HashSet<>();
        new TreeScanner<Void, Void>() {
            @Override
            public Void visitUnary(UnaryTree step, Void none) {
                String sign = step.getKind().toString();
                if (sign.endsWith("INCREMENT") || sign.endsWith("DECREMENT")) {
                    counted.add(step.getExpression().toString());
                }
                return super.visitUnary(step, none);
            }
        }.scan(steps, null);
        if (!comparesOneOf(condition, counted)) {
            breaks(9, node, "a loop without a counter against a bound");
        }
    }

    private static boolean comparesOneOf(Tree condition, Set<String> counted) {
        if (condition instanceof com.sun.source.tree.ParenthesizedTree) {
            return comparesOneOf(((com.sun.source.tree.ParenthesizedTree) condition).getExpression(), counted);
        }
        if (!(condition instanceof BinaryTree)) {
            return false;
        }
        BinaryTree b = (BinaryTree) condition;
        switch (b.getKind()) {
            case CONDITIONAL_AND:
                return comparesOneOf(b.getLeftOperand(), counted) || comparesOneOf(b.getRightOperand(), counted);
            case LESS_THAN: case LESS_THAN_EQUAL: case GREATER_THAN: case GREATER_THAN_EQUAL:
                return counted.contains(b.getLeftOperand().toString()) || counted.contains(b.getRightOperand().toString());
            default:
                return false;
        }
    }

    // ---- 8, 11: calls that stand open

    private Set<ExecutableElement> reached(ExecutableElement from) {
        Set<ExecutableElement> all = new LinkedHashSet<>();
        List<ExecutableElement> next = new ArrayList<>(calls.getOrDefault(from, Set.of()));
        while (!next.isEmpty()) {
            ExecutableElement one = next.remove(next.size() - 1);
            if (all.add(one)) {
                next.addAll(calls.getOrDefault(one, Set.of()));
            }
        }
        return all;
    }

    /** Methods that come back to themselves are private and carry a depth. */
    private void recursion() {
        for (ExecutableElement m : calls.keySet()) {
            if (!reached(m).contains(m)) {
                continue;
            }
            boolean carries = m.getParameters().stream().anyMatch(p -> p.asType().getKind() == TypeKind.INT);
            if (!m.getModifiers().contains(Modifier.PRIVATE) || !carries) {
                breaks(8, methods.get(m), m.getSimpleName() + " calls itself");
            }
        }
    }

    private void depth() {
        for (ExecutableElement m : calls.keySet()) {
            int deep = deepest(m, new HashMap<>());
            if (deep > DEEP) {
                breaks(11, methods.get(m), m.getSimpleName() + " goes " + deep + " deep");
            }
        }
    }

    /** How many methods stand open below and with this one; those that call one another are one. */
    private int deepest(ExecutableElement m, Map<ExecutableElement, Integer> known) {
        Integer had = known.get(m);
        if (had != null) {
            return had;
        }
        int most = 0;
        Set<ExecutableElement> ring = new HashSet<>(Set.of(m));
        for (ExecutableElement other : reached(m)) {
            if (reached(other).contains(m)) {
                ring.add(other);
            }
        }
        for (ExecutableElement one : ring) {
            for (ExecutableElement called : calls.getOrDefault(one, Set.of())) {
                most = ring.contains(called) ? most : Math.max(most, deepest(called, known));
            }
        }
        known.put(m, most + 1);
        return most + 1;
    }
}
