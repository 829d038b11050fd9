import com.sun.source.tree.ArrayAccessTree;
import com.sun.source.tree.AssertTree;
import com.sun.source.tree.AssignmentTree;
import com.sun.source.tree.BinaryTree;
import com.sun.source.tree.BlockTree;
import com.sun.source.tree.ClassTree;
import com.sun.source.tree.CompilationUnitTree;
import com.sun.source.tree.CompoundAssignmentTree;
import com.sun.source.tree.DoWhileLoopTree;
import com.sun.source.tree.ExpressionTree;
import com.sun.source.tree.ForLoopTree;
import com.sun.source.tree.IdentifierTree;
import com.sun.source.tree.ImportTree;
import com.sun.source.tree.LambdaExpressionTree;
import com.sun.source.tree.MemberReferenceTree;
import com.sun.source.tree.MemberSelectTree;
import com.sun.source.tree.MethodInvocationTree;
import com.sun.source.tree.MethodTree;
import com.sun.source.tree.NewArrayTree;
import com.sun.source.tree.NewClassTree;
import com.sun.source.tree.ParenthesizedTree;
import com.sun.source.tree.SynchronizedTree;
import com.sun.source.tree.ThrowTree;
import com.sun.source.tree.Tree;
import com.sun.source.tree.TryTree;
import com.sun.source.tree.TypeCastTree;
import com.sun.source.tree.UnaryTree;
import com.sun.source.tree.VariableTree;
import com.sun.source.tree.WhileLoopTree;
import com.sun.source.util.JavacTask;
import com.sun.source.util.TreePath;
import com.sun.source.util.TreePathScanner;
import com.sun.source.util.TreeScanner;
import com.sun.source.util.Trees;
import java.io.IOException;
import java.net.URI;
import java.util.ArrayList;
import java.util.HashMap;
import java.util.HashSet;
import java.util.List;
import java.util.Map;
import java.util.Set;
import java.util.TreeSet;
import javax.lang.model.element.Element;
import javax.lang.model.element.ElementKind;
import javax.lang.model.element.Modifier;
import javax.lang.model.type.ArrayType;
import javax.lang.model.type.TypeKind;
import javax.lang.model.type.TypeMirror;
import javax.tools.Diagnostic;
import javax.tools.DiagnosticCollector;
import javax.tools.JavaFileObject;
import javax.tools.SimpleJavaFileObject;
import javax.tools.ToolProvider;

/**
 * Reads off a text where it breaks a rule of LANGUAGE.md. It is stricter than the rules where the class can do without what
 * they allow (whiles, recursion, enums, doubles, casts among own classes, objects made on the way), as that is easier to see.
 * Of rule 7, that nothing is used before it is looked at, it sees next to nothing: NeverThrowsTest tries that.
 */
final class Rules extends TreePathScanner<Void, Void> {
    private static final int MOST_CLASSES = 12;
    private static final int MOST_FIELDS = 20;
    private static final int MOST_PARAMETERS = 7;
    private static final int MOST_LINES = 60;
    private static final int MOST_DEPTH = 8;
    private static final Set<String> IMPORTS = Set.of("java.util.Arrays", "java.util.ArrayList", "java.util.List",
            "java.util.Iterator");
    private static final Set<String> TYPES = Set.of("java.lang.String", "java.lang.StringBuilder", "java.lang.Integer",
            "java.util.ArrayList", "java.util.List", "java.util.Iterator");
    private static final Set<String> MADE = Set.of("java.lang.String", "java.lang.StringBuilder", "java.util.ArrayList");
    private static final Set<String> STATICS = Set.of("int", "long", "boolean", "char", "java.lang.String", "int[]", "long[]",
            "char[]", "byte[]");
    private static final Set<String> CALLS = Set.of(
            "String.length", "String.charAt", "String.isEmpty", "String.equals", "String.indexOf", "String.substring",
            "String.toCharArray", "StringBuilder.append", "StringBuilder.charAt", "StringBuilder.setCharAt",
            "StringBuilder.setLength", "StringBuilder.deleteCharAt", "StringBuilder.reverse", "StringBuilder.length",
            "StringBuilder.toString", "ArrayList.add", "ArrayList.get", "ArrayList.set", "ArrayList.remove", "ArrayList.size",
            "ArrayList.isEmpty", "ArrayList.clear", "List.add", "List.get", "List.set", "List.remove", "List.size",
            "List.isEmpty", "List.clear", "List.of", "System.arraycopy", "Arrays.copyOf", "Arrays.copyOfRange", "Arrays.fill");
    private static final Set<String> NUMBERS = Set.of("Integer", "Long", "Math");

    private final List<String> breaches = new ArrayList<>();
    private final Map<String, Set<String>> calls = new HashMap<>();
    private final Set<String> faceNames = new HashSet<>();
    private final Set<String> ownNames = new TreeSet<>();
    private Trees trees;
    private CompilationUnitTree unit;
    private int classes;

    private Rules() {
    }

    /** Each breach as "rule n: what". */
    static List<String> breaches(String text) throws IOException {
        Rules rules = new Rules();
        rules.read(text);
        return rules.breaches;
    }

    private void read(String text) throws IOException {
        if (!text.chars().allMatch(c -> c == '\n' || c >= 32 && c < 127)) {
            breach(4, "a sign that is not plain");
        }
        DiagnosticCollector<JavaFileObject> told = new DiagnosticCollector<>();
        JavacTask task = (JavacTask) ToolProvider.getSystemJavaCompiler().getTask(null, null, told,
                List.of("-proc:none", "--release", "17"), null, List.of(file(text)));
        unit = task.parse().iterator().next();
        task.analyze();
        for (Diagnostic<? extends JavaFileObject> one : told.getDiagnostics()) {
            breach(0, one.toString());
        }
        trees = Trees.instance(task);
        scan(unit, null);
        depth();
        for (String name : ownNames) {
            if (faceNames.contains(name)) {
                breach(1, "a method of our own bears the name " + name);
            }
        }
    }

    private static JavaFileObject file(String text) {
        return new SimpleJavaFileObject(URI.create("string:///MissingNote.java"), JavaFileObject.Kind.SOURCE) {
            @Override
            public CharSequence getCharContent(boolean ignoreEncodingErrors) {
                return text;
            }
        };
    }

    private void breach(int rule, String what) {
        breaches.add("rule " + rule + ": " + what);
    }

    private void breach(int rule, Tree tree) {
        breach(rule, "line " + line(start(tree)) + ": " + tree.toString().strip().split("\n")[0]);
    }

    private long start(Tree tree) {
        return trees.getSourcePositions().getStartPosition(unit, tree);
    }

    private long line(long position) {
        return position < 0 ? 0 : unit.getLineMap().getLineNumber(position);
    }

    private Element element(Tree tree) {
        return trees.getElement(TreePath.getPath(unit, tree));
    }

    private TypeMirror type(Tree tree) {
        return trees.getTypeMirror(TreePath.getPath(unit, tree));
    }

    // ---- the file and its classes

    @Override
    public Void visitCompilationUnit(CompilationUnitTree tree, Void none) {
        if (tree.getPackageName() != null) {
            breach(1, tree.getPackageName());
        }
        if (tree.getTypeDecls().size() != 1) {
            breach(1, "more than one class stands beside another");
        }
        return super.visitCompilationUnit(tree, none);
    }

    @Override
    public Void visitImport(ImportTree tree, Void none) {
        if (tree.isStatic() || !IMPORTS.contains(tree.getQualifiedIdentifier().toString())) {
            breach(4, tree);
        }
        return null;
    }

    @Override
    public Void visitClass(ClassTree tree, Void none) {
        Set<Modifier> said = tree.getModifiers().getFlags();
        Tree around = getCurrentPath().getParentPath().getLeaf();
        boolean outer = around.getKind() == Tree.Kind.COMPILATION_UNIT;
        if (outer && !said.equals(Set.of(Modifier.PUBLIC, Modifier.FINAL))) {
            breach(1, "the class is not public and final");
        }
        if (!outer && !(around instanceof ClassTree)) {
            breach(2, tree);
        }
        boolean plain = tree.getKind() == Tree.Kind.CLASS;
        if (!outer && (plain && !said.contains(Modifier.STATIC) || said.contains(Modifier.PUBLIC) || said.contains(Modifier.PROTECTED))) {
            breach(2, tree);
        }
        classes++;
        if (classes == MOST_CLASSES + 1) {
            breach(11, "too many classes");
        }
        long fields = 0;
        for (Tree member : tree.getMembers()) {
            if (member instanceof VariableTree field && !field.getModifiers().getFlags().contains(Modifier.STATIC)) {
                fields++;
            }
            if (member instanceof BlockTree block) {
                breach(block.isStatic() ? 5 : 12, member);
            }
        }
        if (fields > MOST_FIELDS) {
            breach(11, "too many fields: " + tree.getSimpleName());
        }
        return super.visitClass(tree, none);
    }

    @Override
    public Void visitMethod(MethodTree tree, Void none) {
        if (tree.getParameters().size() > MOST_PARAMETERS) {
            breach(11, tree);
        }
        long last = trees.getSourcePositions().getEndPosition(unit, tree);
        if (start(tree) >= 0 && line(last) - line(start(tree)) >= MOST_LINES) {
            breach(11, "a long method: " + tree.getName());
        }
        Set<Modifier> said = tree.getModifiers().getFlags();
        if (!tree.getName().contentEquals("<init>")) {
            (said.contains(Modifier.PUBLIC) ? faceNames : ownNames).add(tree.getName().toString());
        }
        if (said.contains(Modifier.SYNCHRONIZED) || said.contains(Modifier.NATIVE) || !tree.getThrows().isEmpty()) {
            breach(6, tree);
        }
        return super.visitMethod(tree, none);
    }

    // ---- types and fields

    @Override
    public Void visitVariable(VariableTree tree, Void none) {
        TypeMirror type = type(tree);
        if (type == null || !isAllowed(type)) {
            breach(3, tree);
        }
        Set<Modifier> said = tree.getModifiers().getFlags();
        if (said.contains(Modifier.STATIC)) {
            boolean written = type instanceof ArrayType ? tree.getInitializer() instanceof NewArrayTree row && row.getInitializers() != null
                    : tree.getInitializer() != null;
            if (!said.contains(Modifier.FINAL) || !STATICS.contains(String.valueOf(type)) || !written) {
                breach(5, tree);
            }
        }
        return super.visitVariable(tree, none);
    }

    private boolean isAllowed(TypeMirror type) {
        if (type.getKind() == TypeKind.ARRAY) {
            TypeMirror part = ((ArrayType) type).getComponentType();
            boolean rowOfNumbers = part.getKind() == TypeKind.ARRAY && ((ArrayType) part).getComponentType().getKind().isPrimitive();
            return rowOfNumbers || part.getKind().isPrimitive() || isOwn(part.toString());
        }
        // The rules allow doubles and floats, but ask much of them; the class has none.
        if (type.getKind() == TypeKind.DOUBLE || type.getKind() == TypeKind.FLOAT) {
            return false;
        }
        return type.getKind().isPrimitive() || isOwn(type.toString()) || TYPES.contains(type.toString().replaceAll("<.*", ""));
    }

    private static boolean isOwn(String name) {
        return name.equals("MissingNote") || name.startsWith("MissingNote.");
    }

    // ---- calls, and what is made

    @Override
    public Void visitMethodInvocation(MethodInvocationTree tree, Void none) {
        Element called = element(tree);
        if (called != null && !called.getSimpleName().contentEquals("<init>")) {
            String owner = called.getEnclosingElement().toString();
            String name = called.getEnclosingElement().getSimpleName() + "." + called.getSimpleName();
            if (isOwn(owner)) {
                calls.computeIfAbsent(caller(), k -> new TreeSet<>()).add(owner + "." + called);
            } else if (!CALLS.contains(name) && !isOfNumbers(called)) {
                breach(4, tree);
            }
            for (ExpressionTree given : tree.getArguments()) {
                if (!isOwn(owner) && isStaticRow(given)) {
                    breach(5, tree);
                }
            }
        }
        return super.visitMethodInvocation(tree, none);
    }

    private static boolean isOfNumbers(Element called) {
        boolean listed = NUMBERS.contains(called.getEnclosingElement().getSimpleName().toString());
        String name = called.getSimpleName().toString();
        return listed && called.getModifiers().contains(Modifier.STATIC) && !name.endsWith("Exact") && !name.equals("random");
    }

    @Override
    public Void visitNewClass(NewClassTree tree, Void none) {
        if (tree.getClassBody() != null) {
            breach(2, tree);
        }
        String made = String.valueOf(type(tree)).replaceAll("<.*", "");
        if (isOwn(made)) {
            calls.computeIfAbsent(caller(), k -> new TreeSet<>()).add(made + "." + element(tree));
        } else if (!MADE.contains(made)) {
            breach(4, tree);
        }
        for (ExpressionTree given : tree.getArguments()) {
            if (isPartOfThis(given)) {
                breach(12, tree);
            }
        }
        notOnTheWay(tree);
        return super.visitNewClass(tree, none);
    }

    @Override
    public Void visitNewArray(NewArrayTree tree, Void none) {
        notOnTheWay(tree);
        return super.visitNewArray(tree, none);
    }

    /** What is made is made in constructors and with fields: then no call can fill the room. */
    private void notOnTheWay(Tree tree) {
        MethodTree method = method();
        if (method != null && !method.getName().contentEquals("<init>")) {
            breach(12, tree);
        }
    }

    private boolean isPartOfThis(ExpressionTree given) {
        Element part = element(given);
        boolean field = part != null && part.getKind() == ElementKind.FIELD && !part.getModifiers().contains(Modifier.STATIC);
        return given.toString().equals("this") || field && !part.asType().getKind().isPrimitive();
    }

    private MethodTree method() {
        for (TreePath path = getCurrentPath(); path != null; path = path.getParentPath()) {
            if (path.getLeaf() instanceof MethodTree method) {
                return method;
            }
        }
        return null;
    }

    /** The method around, or the constructor of the class around, if it is a field that is made. */
    private String caller() {
        for (TreePath path = getCurrentPath(); path != null; path = path.getParentPath()) {
            if (path.getLeaf() instanceof MethodTree) {
                Element method = trees.getElement(path);
                return method.getEnclosingElement() + "." + method;
            }
            if (path.getLeaf() instanceof ClassTree) {
                Element around = trees.getElement(path);
                for (Element member : around.getEnclosedElements()) {
                    if (member.getKind() == ElementKind.CONSTRUCTOR) {
                        return around + "." + member;
                    }
                }
            }
        }
        return "";
    }

    private void depth() {
        Map<String, Integer> known = new HashMap<>();
        Set<String> all = new TreeSet<>(calls.keySet());
        for (String method : all) {
            int depth = depth(method, known, new HashSet<>());
            if (depth > MOST_DEPTH) {
                breach(11, depth + " calls deep: " + method);
            }
        }
    }

    /** How many calls stand open at once, this one counted. */
    private int depth(String method, Map<String, Integer> known, Set<String> open) {
        if (known.containsKey(method)) {
            return known.get(method);
        }
        if (!open.add(method)) {
            breach(8, "it calls itself: " + method);
            return 0;
        }
        int deepest = 0;
        for (String called : calls.getOrDefault(method, Set.of())) {
            deepest = Math.max(deepest, depth(called, known, open));
        }
        open.remove(method);
        known.put(method, deepest + 1);
        return deepest + 1;
    }

    // ---- what is ruled out altogether

    @Override
    public Void visitThrow(ThrowTree tree, Void none) {
        breach(6, tree);
        return super.visitThrow(tree, none);
    }

    @Override
    public Void visitTry(TryTree tree, Void none) {
        breach(6, tree);
        return super.visitTry(tree, none);
    }

    @Override
    public Void visitSynchronized(SynchronizedTree tree, Void none) {
        breach(6, tree);
        return super.visitSynchronized(tree, none);
    }

    @Override
    public Void visitAssert(AssertTree tree, Void none) {
        breach(6, tree);
        return super.visitAssert(tree, none);
    }

    @Override
    public Void visitTypeCast(TypeCastTree tree, Void none) {
        if (!type(tree).getKind().isPrimitive() || !type(tree.getExpression()).getKind().isPrimitive()) {
            breach(6, tree);
        }
        return super.visitTypeCast(tree, none);
    }

    @Override
    public Void visitLambdaExpression(LambdaExpressionTree tree, Void none) {
        breach(2, tree);
        return super.visitLambdaExpression(tree, none);
    }

    @Override
    public Void visitMemberReference(MemberReferenceTree tree, Void none) {
        breach(2, tree);
        return super.visitMemberReference(tree, none);
    }

    // ---- expressions

    @Override
    public Void visitBinary(BinaryTree tree, Void none) {
        if (tree.getKind() == Tree.Kind.PLUS && isText(tree)) {
            breach(10, tree);
        }
        boolean alike = tree.getKind() == Tree.Kind.EQUAL_TO || tree.getKind() == Tree.Kind.NOT_EQUAL_TO;
        if (alike && isText(tree.getLeftOperand()) && isText(tree.getRightOperand())) {
            breach(6, tree);
        }
        boolean divides = tree.getKind() == Tree.Kind.DIVIDE || tree.getKind() == Tree.Kind.REMAINDER;
        if (divides && String.valueOf(tree.getRightOperand()).equals("0")) {
            breach(7, tree);
        }
        return super.visitBinary(tree, none);
    }

    private boolean isText(Tree tree) {
        return List.of("java.lang.String", "java.lang.Integer").contains(String.valueOf(type(tree)));
    }

    @Override
    public Void visitAssignment(AssignmentTree tree, Void none) {
        notInStaticRow(tree, tree.getVariable());
        return super.visitAssignment(tree, none);
    }

    @Override
    public Void visitCompoundAssignment(CompoundAssignmentTree tree, Void none) {
        notInStaticRow(tree, tree.getVariable());
        return super.visitCompoundAssignment(tree, none);
    }

    @Override
    public Void visitUnary(UnaryTree tree, Void none) {
        if (isStep(tree)) {
            notInStaticRow(tree, tree.getExpression());
        }
        return super.visitUnary(tree, none);
    }

    private void notInStaticRow(Tree tree, ExpressionTree changed) {
        if (changed instanceof ArrayAccessTree item && isStaticRow(item.getExpression())) {
            breach(5, tree);
        }
    }

    private boolean isStaticRow(ExpressionTree tree) {
        Element row = element(tree);
        return row != null && row.getKind() == ElementKind.FIELD && row.getModifiers().contains(Modifier.STATIC)
                && row.asType().getKind() == TypeKind.ARRAY;
    }

    private static boolean isStep(Tree tree) {
        return Set.of(Tree.Kind.PREFIX_INCREMENT, Tree.Kind.PREFIX_DECREMENT, Tree.Kind.POSTFIX_INCREMENT,
                Tree.Kind.POSTFIX_DECREMENT).contains(tree.getKind());
    }

    // ---- loops

    @Override
    public Void visitWhileLoop(WhileLoopTree tree, Void none) {
        breach(9, tree);
        return super.visitWhileLoop(tree, none);
    }

    @Override
    public Void visitDoWhileLoop(DoWhileLoopTree tree, Void none) {
        breach(9, tree);
        return super.visitDoWhileLoop(tree, none);
    }

    /** A counter that goes by one towards a bound, and neither is changed in the loop's own lines. */
    @Override
    public Void visitForLoop(ForLoopTree tree, Void none) {
        if (!hasEnd(tree)) {
            breach(9, tree);
        }
        return super.visitForLoop(tree, none);
    }

    private boolean hasEnd(ForLoopTree tree) {
        if (tree.getInitializer().size() != 1 || !(tree.getInitializer().get(0) instanceof VariableTree counter)
                || tree.getUpdate().size() != 1 || !(tree.getUpdate().get(0).getExpression() instanceof UnaryTree step) || !isStep(step)
                || tree.getCondition() == null) {
            return false;
        }
        String name = counter.getName().toString();
        boolean up = step.toString().contains("++");
        for (ExpressionTree part : parts(tree.getCondition())) {
            boolean towards = up ? part.getKind() == Tree.Kind.LESS_THAN || part.getKind() == Tree.Kind.LESS_THAN_EQUAL
                    : part.getKind() == Tree.Kind.GREATER_THAN || part.getKind() == Tree.Kind.GREATER_THAN_EQUAL;
            if (towards && ((BinaryTree) part).getLeftOperand().toString().equals(name)) {
                Set<String> names = names(((BinaryTree) part).getRightOperand());
                names.add(name);
                names.retainAll(changed(tree.getStatement()));
                return names.isEmpty() && step.getExpression().toString().equals(name);
            }
        }
        return false;
    }

    /** What all has to hold for a condition joined by && to hold. */
    private static List<ExpressionTree> parts(ExpressionTree condition) {
        if (condition instanceof ParenthesizedTree inside) {
            return parts(inside.getExpression());
        }
        if (condition.getKind() != Tree.Kind.CONDITIONAL_AND) {
            return List.of(condition);
        }
        List<ExpressionTree> all = new ArrayList<>(parts(((BinaryTree) condition).getLeftOperand()));
        all.addAll(parts(((BinaryTree) condition).getRightOperand()));
        return all;
    }

    private static Set<String> names(Tree tree) {
        Set<String> names = new HashSet<>();
        new TreeScanner<Void, Void>() {
            @Override
            public Void visitIdentifier(IdentifierTree one, Void none) {
                names.add(one.getName().toString());
                return null;
            }

            @Override
            public Void visitMemberSelect(MemberSelectTree one, Void none) {
                names.add(one.getIdentifier().toString());
                return super.visitMemberSelect(one, none);
            }
        }.scan(tree, null);
        return names;
    }

    private static Set<String> changed(Tree tree) {
        Set<String> names = new HashSet<>();
        new TreeScanner<Void, Void>() {
            @Override
            public Void visitAssignment(AssignmentTree one, Void none) {
                names.add(last(one.getVariable()));
                return super.visitAssignment(one, none);
            }

            @Override
            public Void visitCompoundAssignment(CompoundAssignmentTree one, Void none) {
                names.add(last(one.getVariable()));
                return super.visitCompoundAssignment(one, none);
            }

            @Override
            public Void visitUnary(UnaryTree one, Void none) {
                if (isStep(one)) {
                    names.add(last(one.getExpression()));
                }
                return super.visitUnary(one, none);
            }
        }.scan(tree, null);
        return names;
    }

    /** The name behind the last dot. */
    private static String last(Tree tree) {
        String text = tree.toString();
        return text.substring(text.lastIndexOf('.') + 1);
    }
}
