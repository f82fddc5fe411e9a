import com.sun.source.tree.ArrayAccessTree;
import com.sun.source.tree.BinaryTree;
import com.sun.source.tree.BlockTree;
import com.sun.source.tree.ClassTree;
import com.sun.source.tree.CompilationUnitTree;
import com.sun.source.tree.DoWhileLoopTree;
import com.sun.source.tree.ExpressionTree;
import com.sun.source.tree.ForLoopTree;
import com.sun.source.tree.MethodInvocationTree;
import com.sun.source.tree.MethodTree;
import com.sun.source.tree.NewArrayTree;
import com.sun.source.tree.NewClassTree;
import com.sun.source.tree.Tree;
import com.sun.source.tree.VariableTree;
import com.sun.source.tree.WhileLoopTree;
import com.sun.source.util.JavacTask;
import com.sun.source.util.TreePath;
import com.sun.source.util.TreePathScanner;
import com.sun.source.util.Trees;
import java.io.IOException;
import java.nio.file.Path;
import java.util.EnumSet;
import java.util.HashMap;
import java.util.List;
import java.util.Map;
import java.util.Set;
import java.util.TreeMap;
import java.util.TreeSet;
import javax.lang.model.element.Element;
import javax.lang.model.element.ElementKind;
import javax.lang.model.element.Modifier;
import javax.lang.model.element.VariableElement;
import javax.tools.JavaCompiler;
import javax.tools.StandardJavaFileManager;
import javax.tools.ToolProvider;

/** The rules of LANGUAGE.md that can be seen in the tree that javac makes of the class. */
public final class LanguageTreeTest extends TreePathScanner<Void, Void> {
    private static final int MOST_CALLS_DEEP = 8, MOST_FIELDS = 20, MOST_CLASSES = 12, MOST_PARAMETERS = 7;
    private static final Set<Tree.Kind> BANNED = EnumSet.of(
        Tree.Kind.THROW, Tree.Kind.TRY, Tree.Kind.CATCH, Tree.Kind.SYNCHRONIZED, Tree.Kind.ASSERT,
        Tree.Kind.LAMBDA_EXPRESSION, Tree.Kind.MEMBER_REFERENCE, Tree.Kind.ANNOTATION, Tree.Kind.IMPORT,
        Tree.Kind.PACKAGE, Tree.Kind.TYPE_CAST, Tree.Kind.INSTANCE_OF, Tree.Kind.YIELD,
        Tree.Kind.SWITCH_EXPRESSION);
    private static final Set<String> LIBRARY = Set.of("String.length", "String.charAt", "Math.min", "Math.max");
    private static final Set<String> TYPES = Set.of("int", "boolean", "String", "int[]", "void");

    private final Check check;
    private final Trees trees;
    private final Set<String> ownTypes = new TreeSet<>();
    private final Set<String> publicNames = new TreeSet<>();
    private final Set<String> otherNames = new TreeSet<>();
    private final Map<String, Set<String>> calls = new TreeMap<>();
    private final Map<String, Integer> depths = new HashMap<>();
    private int methods;
    private int accesses;
    private int loops;

    private LanguageTreeTest(Check check, Trees trees) {
        this.check = check;
        this.trees = trees;
    }

    public static void main(String[] args) throws IOException {
        Check check = new Check("LanguageTreeTest");
        JavaCompiler compiler = ToolProvider.getSystemJavaCompiler();
        try (StandardJavaFileManager files = compiler.getStandardFileManager(null, null, null)) {
            JavacTask task = (JavacTask) compiler.getTask(null, files, null, List.of("-proc:none"), null,
                files.getJavaFileObjects(Path.of("src/main/java/SyntaxRepair.java")));
            LanguageTreeTest test = new LanguageTreeTest(check, Trees.instance(task));
            for (CompilationUnitTree unit : task.parse()) {
                task.analyze();
                unit.getTypeDecls().forEach(type -> test.collectTypes((ClassTree) type));
                test.scan(unit, null);
            }
            test.end();
        }
        check.end();
    }

    private void holds(String rule, boolean held) {
        check.due(rule, held ? 1 : 0, 1);
    }

    private void collectTypes(ClassTree type) {
        ownTypes.add(type.getSimpleName().toString());
        for (Tree member : type.getMembers()) {
            if (member instanceof ClassTree) {
                collectTypes((ClassTree) member);
            }
        }
    }

    private void end() {
        holds("rule 11: at most twelve classes", ownTypes.size() <= MOST_CLASSES);
        for (String name : otherNames) {
            holds("rule 1: " + name + " is no name of a public method", !publicNames.contains(name));
        }
        for (String method : calls.keySet()) {
            int depth = depthOf(method, new TreeSet<>());
            holds("rule 8: " + method + " does not call itself", depth < 1000);
            holds("rule 11: " + method + " calls at most eight deep, " + depth, depth <= MOST_CALLS_DEEP);
        }
        holds("methods, loops and accesses are found", methods > 100 && loops > 20 && accesses > 8);
    }

    private int depthOf(String method, Set<String> open) {
        if (!calls.containsKey(method)) {
            return 0;
        }
        if (depths.containsKey(method)) {
            return depths.get(method);
        }
        if (!open.add(method)) {
            return 1000;
        }
        int deepest = 0;
        for (String called : calls.get(method)) {
            deepest = Math.max(deepest, depthOf(called, open));
        }
        open.remove(method);
        depths.put(method, deepest + 1);
        return deepest + 1;
    }

    // ---- what stands in the file

    @Override
    public Void scan(Tree tree, Void nothing) {
        if (tree != null) {
            holds("rules 2 and 6: no " + tree.getKind() + " in " + tree, !BANNED.contains(tree.getKind()));
        }
        return super.scan(tree, nothing);
    }

    @Override
    public Void visitClass(ClassTree type, Void nothing) {
        Set<Modifier> flags = type.getModifiers().getFlags();
        boolean outer = getCurrentPath().getParentPath().getLeaf() instanceof CompilationUnitTree;
        String name = type.getSimpleName().toString();
        boolean member = getCurrentPath().getParentPath().getLeaf() instanceof ClassTree;
        holds("rule 2: " + name + " is no local or anonymous class", outer || member);
        holds("rule 1: " + name + " is public and final, or static and not public", outer
            ? flags.contains(Modifier.PUBLIC) && flags.contains(Modifier.FINAL)
            : flags.contains(Modifier.STATIC) && !flags.contains(Modifier.PUBLIC) && !flags.contains(Modifier.PROTECTED));
        int fields = 0;
        for (Tree part : type.getMembers()) {
            holds("rule 5: no initialiser block in " + name, !(part instanceof BlockTree));
            if (part instanceof VariableTree) {
                Set<Modifier> fieldFlags = ((VariableTree) part).getModifiers().getFlags();
                boolean isStatic = fieldFlags.contains(Modifier.STATIC);
                fields += isStatic ? 0 : 1;
                holds("rule 5: static fields are final: " + part, !isStatic || fieldFlags.contains(Modifier.FINAL));
                holds("rule 1: fields are private or constants of the face: " + part,
                    fieldFlags.contains(Modifier.PRIVATE) || outer && isStatic && fieldFlags.contains(Modifier.PUBLIC));
            }
        }
        holds("rule 11: at most twenty fields in " + name + ", " + fields, fields <= MOST_FIELDS);
        return super.visitClass(type, nothing);
    }

    @Override
    public Void visitMethod(MethodTree method, Void nothing) {
        methods++;
        String name = method.getName().toString();
        Set<Modifier> flags = method.getModifiers().getFlags();
        boolean inOuter = getCurrentPath().getParentPath().getParentPath().getLeaf() instanceof CompilationUnitTree;
        holds("rule 1: " + name + " is public or private", !inOuter || flags.contains(Modifier.PUBLIC)
            || flags.contains(Modifier.PRIVATE));
        holds("rule 11: parameters of " + name, method.getParameters().size() <= MOST_PARAMETERS);
        if (!name.equals("<init>")) {
            (flags.contains(Modifier.PUBLIC) ? publicNames : otherNames).add(name);
            type("rule 3: what " + name + " answers", method.getReturnType());
        }
        calls.computeIfAbsent(idOf(trees.getElement(getCurrentPath())), key -> new TreeSet<>());
        return super.visitMethod(method, nothing);
    }

    @Override
    public Void visitVariable(VariableTree variable, Void nothing) {
        type("rule 3: " + variable, variable.getType());
        return super.visitVariable(variable, nothing);
    }

    private void type(String rule, Tree type) {
        String name = type.toString();
        String plain = name.endsWith("[]") ? name.substring(0, name.length() - 2) : name;
        holds(rule, TYPES.contains(name) || ownTypes.contains(plain));
    }

    // ---- calls and objects

    private static String idOf(Element method) {
        return method.getEnclosingElement().getSimpleName() + "." + method;
    }

    /** The method or constructor around the present place, or null in the initialiser of a field. */
    private TreePath around() {
        TreePath path = getCurrentPath();
        while (path != null && !(path.getLeaf() instanceof MethodTree)) {
            path = path.getLeaf() instanceof ClassTree ? null : path.getParentPath();
        }
        return path;
    }

    @Override
    public Void visitMethodInvocation(MethodInvocationTree call, Void nothing) {
        Element called = trees.getElement(getCurrentPath());
        String owner = called.getEnclosingElement().getSimpleName().toString();
        TreePath around = around();
        if (ownTypes.contains(owner) && around != null) {
            calls.computeIfAbsent(idOf(trees.getElement(around)), key -> new TreeSet<>()).add(idOf(called));
        } else if (called.getKind() != ElementKind.CONSTRUCTOR) {
            String name = owner + "." + called.getSimpleName();
            holds("rule 4: " + name, LIBRARY.contains(name));
        }
        return super.visitMethodInvocation(call, nothing);
    }

    @Override
    public Void visitNewClass(NewClassTree made, Void nothing) {
        onlyInConstructors(made);
        holds("rule 2: no class without a name: " + made, made.getClassBody() == null);
        holds("rule 4: " + made, ownTypes.contains(made.getIdentifier().toString()));
        return super.visitNewClass(made, nothing);
    }

    @Override
    public Void visitNewArray(NewArrayTree made, Void nothing) {
        onlyInConstructors(made);
        holds("rule 3: arrays of one dimension: " + made, made.getDimensions().size() <= 1);
        for (ExpressionTree length : made.getDimensions()) {
            holds("the length of an array is a constant: " + made, isConstant(new TreePath(getCurrentPath(), length)));
        }
        return super.visitNewArray(made, nothing);
    }

    /** All rows are made with the object, so that no run of calls fills the room. */
    private void onlyInConstructors(Tree made) {
        TreePath around = around();
        holds("rule 12: made with the object: " + made,
            around == null || ((MethodTree) around.getLeaf()).getName().contentEquals("<init>"));
    }

    // ---- indexes, divisors, loops

    @Override
    public Void visitArrayAccess(ArrayAccessTree access, Void nothing) {
        accesses++;
        String index = access.getIndex().toString();
        TreePath around = around();
        String method = around == null ? "" : around.getLeaf().toString();
        holds("rule 7: " + access + " is looked at before", method.contains(index + " < " + access.getExpression() + ".length")
            && (method.contains(index + " >= 0") || method.contains("int " + index + " = 0")));
        return super.visitArrayAccess(access, nothing);
    }

    @Override
    public Void visitBinary(BinaryTree operation, Void nothing) {
        Tree.Kind kind = operation.getKind();
        if (kind == Tree.Kind.DIVIDE || kind == Tree.Kind.REMAINDER) {
            holds("rule 7: the divisor is a constant: " + operation,
                isConstant(new TreePath(getCurrentPath(), operation.getRightOperand())));
        }
        if (kind == Tree.Kind.PLUS) {
            holds("rule 10: no texts are joined: " + operation, !trees.getTypeMirror(getCurrentPath()).toString()
                .endsWith("String"));
        }
        return super.visitBinary(operation, nothing);
    }

    /** A number above 0 that is written down, or the name of one; a product and a sum of such are as good. */
    private boolean isConstant(TreePath path) {
        Tree tree = path.getLeaf();
        if (tree.getKind() == Tree.Kind.PARENTHESIZED || tree instanceof BinaryTree) {
            return tree.toString().matches("[A-Z0-9_ ()*+]+");
        }
        if (tree.getKind() == Tree.Kind.INT_LITERAL) {
            return Integer.parseInt(tree.toString()) > 0;
        }
        Element element = trees.getElement(path);
        return element instanceof VariableElement && ((VariableElement) element).getConstantValue() instanceof Integer
            && (Integer) ((VariableElement) element).getConstantValue() > 0;
    }

    private void bounded(Tree condition) {
        loops++;
        holds("rule 9: a loop with a bound: " + condition, condition != null && condition.toString().matches("(?s).*[<>].*"));
    }

    @Override
    public Void visitForLoop(ForLoopTree loop, Void nothing) {
        bounded(loop.getCondition());
        return super.visitForLoop(loop, nothing);
    }

    @Override
    public Void visitWhileLoop(WhileLoopTree loop, Void nothing) {
        bounded(loop.getCondition());
        return super.visitWhileLoop(loop, nothing);
    }

    @Override
    public Void visitDoWhileLoop(DoWhileLoopTree loop, Void nothing) {
        bounded(loop.getCondition());
        return super.visitDoWhileLoop(loop, nothing);
    }
}
