import com.sun.source.tree.AssignmentTree;
import com.sun.source.tree.BinaryTree;
import com.sun.source.tree.ClassTree;
import com.sun.source.tree.CompilationUnitTree;
import com.sun.source.tree.CompoundAssignmentTree;
import com.sun.source.tree.ExpressionTree;
import com.sun.source.tree.ForLoopTree;
import com.sun.source.tree.ImportTree;
import com.sun.source.tree.LiteralTree;
import com.sun.source.tree.MethodInvocationTree;
import com.sun.source.tree.MethodTree;
import com.sun.source.tree.NewArrayTree;
import com.sun.source.tree.NewClassTree;
import com.sun.source.tree.Tree;
import com.sun.source.tree.Tree.Kind;
import com.sun.source.tree.TypeCastTree;
import com.sun.source.tree.VariableTree;
import com.sun.source.tree.WhileLoopTree;
import com.sun.source.util.JavacTask;
import com.sun.source.util.TreePath;
import com.sun.source.util.TreePathScanner;
import com.sun.source.util.Trees;
import java.io.File;
import java.io.IOException;
import java.util.ArrayList;
import java.util.Arrays;
import java.util.EnumSet;
import java.util.HashMap;
import java.util.HashSet;
import java.util.List;
import java.util.Map;
import java.util.Set;
import javax.lang.model.element.Element;
import javax.lang.model.element.ExecutableElement;
import javax.lang.model.element.Modifier;
import javax.lang.model.element.VariableElement;
import javax.tools.JavaCompiler;
import javax.tools.StandardJavaFileManager;
import javax.tools.ToolProvider;

/** The class keeps to ../shared/LANGUAGE.md, as far as a look at its source can tell; numbers in brackets are its rules. */
public final class LanguageTest extends TreePathScanner<Void, Void> {
    private static final String SOURCE = "src/main/java/InvariantWorks.java";
    private static final int MOST_LINES = 60;
    private static final int MOST_PARAMETERS = 7;
    private static final int MOST_DEEP = 8;
    private static final int MOST_CLASSES = 12;
    private static final int MOST_FIELDS = 20;
    private static final Set<String> IMPORTS = setOf("java.util.Arrays", "java.util.NoSuchElementException");
    private static final Set<String> LIBRARY = setOf("java.util.Arrays.fill", "java.lang.System.arraycopy",
            "java.lang.Math.floorMod", "java.lang.Math.min", "java.lang.Math.max");
    private static final Set<String> STATIC_TYPES = setOf("int", "long", "boolean", "char", "String");
    // Where arrays may be made at work: each grows a row at most a few times.
    private static final Set<String> MAKERS = setOf("InvariantWorks.withRoom", "SumReader.readAll");
    private static final Set<Kind> FOREIGN = EnumSet.of(Kind.LAMBDA_EXPRESSION, Kind.MEMBER_REFERENCE, Kind.TRY, Kind.CATCH,
            Kind.ASSERT, Kind.SYNCHRONIZED, Kind.INSTANCE_OF, Kind.DOUBLE_LITERAL, Kind.FLOAT_LITERAL, Kind.ENHANCED_FOR_LOOP);

    private final CompilationUnitTree unit;
    private final Trees trees;
    private final Map<String, Set<String>> calls = new HashMap<>();
    private final Map<String, Integer> depths = new HashMap<>();
    private String owner = "";
    private String method = "";
    private String body = "";
    private int classes = 0;

    private LanguageTest(CompilationUnitTree unit, Trees trees) {
        this.unit = unit;
        this.trees = trees;
    }

    public static void main(String[] args) throws IOException {
        JavaCompiler compiler = ToolProvider.getSystemJavaCompiler();
        StandardJavaFileManager files = compiler.getStandardFileManager(null, null, null);
        File source = new File(args.length > 0 ? args[0] : SOURCE);
        JavacTask task = (JavacTask) compiler.getTask(null, files, null, null, null, files.getJavaFileObjects(source));
        CompilationUnitTree unit = task.parse().iterator().next();
        task.analyze();
        LanguageTest test = new LanguageTest(unit, Trees.instance(task));
        test.scan(unit, null);
        Checks.holds("[11] some twelve classes: " + test.classes, test.classes <= MOST_CLASSES);
        test.lookAtDepths();
        Checks.end();
    }

    private static Set<String> setOf(String... names) {
        return new HashSet<>(Arrays.asList(names));
    }

    private String at(Tree tree) {
        long start = trees.getSourcePositions().getStartPosition(unit, tree);
        return "line " + unit.getLineMap().getLineNumber(start) + ": ";
    }

    private long lines(Tree tree) {
        long start = trees.getSourcePositions().getStartPosition(unit, tree);
        long end = trees.getSourcePositions().getEndPosition(unit, tree);
        return unit.getLineMap().getLineNumber(end) - unit.getLineMap().getLineNumber(start) + 1;
    }

    private Element elementOf(Tree tree) {
        return trees.getElement(new TreePath(getCurrentPath(), tree));
    }

    @Override
    public Void scan(Tree tree, Void nothing) {
        if (tree != null && FOREIGN.contains(tree.getKind())) {
            Checks.holds(at(tree) + "nothing of the kind " + tree.getKind(), false);
        }
        return super.scan(tree, nothing);
    }

    @Override
    public Void visitImport(ImportTree tree, Void nothing) {
        String name = tree.getQualifiedIdentifier().toString();
        Checks.holds("[4] import " + name, !tree.isStatic() && IMPORTS.contains(name));
        return null;
    }

    @Override
    public Void visitClass(ClassTree tree, Void nothing) {
        classes++;
        String before = owner;
        owner = tree.getSimpleName().toString();
        Set<Modifier> flags = tree.getModifiers().getFlags();
        Checks.holds("[1] " + owner + " is public, or private and static", flags.contains(Modifier.PUBLIC)
                || flags.contains(Modifier.PRIVATE) && flags.contains(Modifier.STATIC));
        int fields = 0;
        for (Tree member : tree.getMembers()) {
            Checks.holds(at(member) + "[5] no initialiser block", member.getKind() != Kind.BLOCK);
            if (member instanceof VariableTree && !isStatic((VariableTree) member)) {
                fields++;
            } else if (member instanceof VariableTree) {
                lookAtStatic((VariableTree) member);
            }
        }
        Checks.holds("[11] some twenty fields in " + owner + ": " + fields, fields <= MOST_FIELDS);
        super.visitClass(tree, nothing);
        owner = before;
        return null;
    }

    private static boolean isStatic(VariableTree field) {
        return field.getModifiers().getFlags().contains(Modifier.STATIC);
    }

    private void lookAtStatic(VariableTree field) {
        boolean isFinal = field.getModifiers().getFlags().contains(Modifier.FINAL);
        Checks.holds(at(field) + "[5] a constant", isFinal && STATIC_TYPES.contains(field.getType().toString()));
    }

    @Override
    public Void visitMethod(MethodTree tree, Void nothing) {
        String before = method;
        method = owner + "." + tree.getName();
        body = tree.getBody() == null ? "" : tree.getBody().toString();
        calls.computeIfAbsent(method, m -> new HashSet<>());
        Checks.holds("[11] " + method + " is short", lines(tree) <= MOST_LINES);
        Checks.holds("[11] " + method + " takes few", tree.getParameters().size() <= MOST_PARAMETERS);
        super.visitMethod(tree, nothing);
        method = before;
        return null;
    }

    @Override
    public Void visitMethodInvocation(MethodInvocationTree tree, Void nothing) {
        Element called = elementOf(tree.getMethodSelect());
        if (called instanceof ExecutableElement) {
            noteCall(tree, called);
        }
        return super.visitMethodInvocation(tree, nothing);
    }

    @Override
    public Void visitNewClass(NewClassTree tree, Void nothing) {
        Element made = elementOf(tree);
        if (made != null) {
            noteCall(tree, made);
        }
        return super.visitNewClass(tree, nothing);
    }

    private void noteCall(Tree tree, Element called) {
        Element home = called.getEnclosingElement();
        String name = home + "." + called.getSimpleName();
        if (home.toString().startsWith("InvariantWorks")) {
            calls.computeIfAbsent(method, m -> new HashSet<>()).add(home.getSimpleName() + "." + called.getSimpleName());
        } else if (called.getSimpleName().contentEquals("<init>")) {
            boolean isThrown = name.equals("java.util.NoSuchElementException.<init>") || name.equals("java.lang.Object.<init>");
            Checks.holds(at(tree) + "[6] only term() throws: " + name, isThrown && (method.endsWith(".term") || name.contains("Object")));
        } else {
            Checks.holds(at(tree) + "[4] " + name, LIBRARY.contains(name));
        }
    }

    @Override
    public Void visitBinary(BinaryTree tree, Void nothing) {
        if (tree.getKind() == Kind.DIVIDE || tree.getKind() == Kind.REMAINDER) {
            lookAtDivisor(tree, tree.getRightOperand());
        }
        boolean joins = tree.getKind() == Kind.PLUS
                && String.valueOf(trees.getTypeMirror(getCurrentPath())).equals("java.lang.String");
        Checks.holds(at(tree) + "[10] no texts are joined by +", !joins);
        return super.visitBinary(tree, nothing);
    }

    @Override
    public Void visitCompoundAssignment(CompoundAssignmentTree tree, Void nothing) {
        if (tree.getKind() == Kind.DIVIDE_ASSIGNMENT || tree.getKind() == Kind.REMAINDER_ASSIGNMENT) {
            lookAtDivisor(tree, tree.getExpression());
        }
        return super.visitCompoundAssignment(tree, nothing);
    }

    /** A divisor is a constant that is not 0, or it is compared with 0 in the same method ahead of it. */
    private void lookAtDivisor(Tree tree, ExpressionTree divisor) {
        String told = divisor.toString();
        String tests = body.replace("% " + told, "").replace("/ " + told, "");
        boolean seen = isConstant(divisor);
        for (String test : Arrays.asList("divides(" + told + ",", told + " == 0 ?", told + " > 0 &&")) {
            seen = seen || tests.contains(test);
        }
        Checks.holds(at(tree) + "[7] the divisor " + told + " is looked at", seen);
    }

    private boolean isConstant(ExpressionTree divisor) {
        Element element = elementOf(divisor);
        Object value = divisor instanceof LiteralTree ? ((LiteralTree) divisor).getValue()
                : element instanceof VariableElement ? ((VariableElement) element).getConstantValue() : null;
        return value instanceof Integer && (Integer) value != 0;
    }

    @Override
    public Void visitNewArray(NewArrayTree tree, Void nothing) {
        boolean isField = method.isEmpty() || method.endsWith(".<init>");
        Checks.holds(at(tree) + "[12] arrays are made in constructors, or in " + MAKERS, isField || MAKERS.contains(method));
        return super.visitNewArray(tree, nothing);
    }

    @Override
    public Void visitTypeCast(TypeCastTree tree, Void nothing) {
        Checks.holds(at(tree) + "[6] casts of numbers alone", STATIC_TYPES.contains(tree.getType().toString())
                || tree.getType().toString().equals("byte"));
        return super.visitTypeCast(tree, nothing);
    }

    @Override
    public Void visitForLoop(ForLoopTree tree, Void nothing) {
        Checks.holds(at(tree) + "[9] a loop with an end", tree.getCondition() != null);
        return super.visitForLoop(tree, nothing);
    }

    @Override
    public Void visitWhileLoop(WhileLoopTree tree, Void nothing) {
        Checks.holds(at(tree) + "[9] a loop with an end", !tree.getCondition().toString().equals("(true)"));
        return super.visitWhileLoop(tree, nothing);
    }

    @Override
    public Void visitAssignment(AssignmentTree tree, Void nothing) {
        Element set = elementOf(tree.getVariable());
        boolean isShared = set instanceof VariableElement && set.getModifiers().contains(Modifier.STATIC);
        Checks.holds(at(tree) + "[5] no static state", !isShared);
        return super.visitAssignment(tree, nothing);
    }

    /** Methods that call one another count as one: what goes deeper is no recursion. */
    private void lookAtDepths() {
        for (String from : calls.keySet()) {
            int deep = depth(from, new ArrayList<>());
            Checks.holds("[11] calls from " + from + " go at most eight deep: " + deep, deep <= MOST_DEEP);
            boolean inReader = from.startsWith("SumReader.");
            Checks.holds("[8] only brackets are read by recursion: " + from, inReader || !reaches(from, from, new HashSet<>()));
        }
        Checks.holds("[8] brackets are read by recursion", reaches("SumReader.readSum", "SumReader.readSum", new HashSet<>()));
        Checks.holds("all methods are seen: " + calls.size(), calls.size() > 100);
    }

    private int depth(String from, List<String> open) {
        Integer known = depths.get(from);
        if (known != null) {
            return known;
        }
        int deepest = 0;
        open.add(from);
        for (String to : calls.getOrDefault(from, new HashSet<>())) {
            if (!open.contains(to)) {
                boolean isRecursion = reaches(to, from, new HashSet<>());
                deepest = Math.max(deepest, depth(to, open) + (isRecursion ? -1 : 0));
            }
        }
        open.remove(from);
        if (!reaches(from, from, new HashSet<>())) {
            depths.put(from, deepest + 1);
        }
        return deepest + 1;
    }

    private boolean reaches(String from, String goal, Set<String> seen) {
        for (String to : calls.getOrDefault(from, new HashSet<>())) {
            if (to.equals(goal) || seen.add(to) && reaches(to, goal, seen)) {
                return true;
            }
        }
        return false;
    }
}
