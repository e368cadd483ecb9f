import com.sun.source.tree.BinaryTree;
import com.sun.source.tree.BlockTree;
import com.sun.source.tree.ClassTree;
import com.sun.source.tree.CompilationUnitTree;
import com.sun.source.tree.CompoundAssignmentTree;
import com.sun.source.tree.ExpressionTree;
import com.sun.source.tree.MethodInvocationTree;
import com.sun.source.tree.MethodTree;
import com.sun.source.tree.NewArrayTree;
import com.sun.source.tree.NewClassTree;
import com.sun.source.tree.Tree;
import com.sun.source.tree.TypeCastTree;
import com.sun.source.tree.VariableTree;
import com.sun.source.tree.WhileLoopTree;
import com.sun.source.util.JavacTask;
import com.sun.source.util.SourcePositions;
import com.sun.source.util.TreePath;
import com.sun.source.util.TreePathScanner;
import com.sun.source.util.Trees;
import java.io.IOException;
import java.nio.file.Path;
import java.util.EnumSet;
import java.util.HashMap;
import java.util.HashSet;
import java.util.List;
import java.util.Map;
import java.util.Set;
import javax.lang.model.element.Element;
import javax.lang.model.element.ElementKind;
import javax.lang.model.element.Modifier;
import javax.lang.model.element.VariableElement;
import javax.lang.model.type.TypeMirror;
import javax.tools.JavaCompiler;
import javax.tools.StandardJavaFileManager;
import javax.tools.ToolProvider;

/** The rules of LANGUAGE.md that can be seen from the class's tree, as the compiler reads it. */
public final class LanguageTest extends TreePathScanner<Void, Void> {
    private static final Check CHECK = new Check();
    private static final int MOST_PARAMETERS = 7;
    private static final int MOST_LINES = 60;
    private static final int MOST_DEPTH = 8;
    private static final int MOST_CLASSES = 12;
    private static final int MOST_FIELDS = 20;

    private static final Set<Tree.Kind> RULED_OUT = EnumSet.of(Tree.Kind.THROW, Tree.Kind.TRY, Tree.Kind.CATCH,
        Tree.Kind.SYNCHRONIZED, Tree.Kind.ASSERT, Tree.Kind.LAMBDA_EXPRESSION, Tree.Kind.MEMBER_REFERENCE,
        Tree.Kind.FLOAT_LITERAL, Tree.Kind.DOUBLE_LITERAL, Tree.Kind.NULL_LITERAL,
        Tree.Kind.INSTANCE_OF, Tree.Kind.SWITCH_EXPRESSION, Tree.Kind.YIELD, Tree.Kind.ANNOTATION, Tree.Kind.TYPE_ANNOTATION);
    private static final Set<String> LIBRARY = Set.of("java.lang.Math.max", "java.lang.Math.min", "java.lang.Math.abs",
        "java.lang.System.arraycopy", "java.util.Arrays.fill", "java.lang.String.length", "java.lang.String.charAt",
        "java.lang.Object.<init>");
    private static final Set<String> TYPES = Set.of("int", "long", "byte", "char", "boolean", "java.lang.String", "int[]",
        "long[]", "byte[]", "boolean[]");

    private final Trees trees;
    private final CompilationUnitTree unit;
    private final SourcePositions positions;
    private final Map<Element, Set<Element>> callees = new HashMap<>();
    private Element caller;
    private int classes = 0;

    private LanguageTest(Trees trees, CompilationUnitTree unit) {
        this.trees = trees;
        this.unit = unit;
        positions = trees.getSourcePositions();
    }

    public static void main(String[] args) throws IOException {
        JavaCompiler compiler = ToolProvider.getSystemJavaCompiler();
        try (StandardJavaFileManager files = compiler.getStandardFileManager(null, null, null)) {
            JavacTask task = (JavacTask) compiler.getTask(null, files, null, List.of("--release", "17", "-proc:none"), null,
                files.getJavaFileObjects(Path.of("src/main/java/BranchGuess.java")));
            CompilationUnitTree unit = task.parse().iterator().next();
            task.analyze();
            LanguageTest test = new LanguageTest(Trees.instance(task), unit);
            CHECK.holds("no package", unit.getPackageName() == null);
            CHECK.holds("one class in the file", unit.getTypeDecls().size() == 1);
            test.scan(unit, null);
            test.depths();
            CHECK.holds("rule 11: " + test.classes + " classes", test.classes <= MOST_CLASSES);
        }
        CHECK.finish();
    }

    private Element element(Tree tree) {
        return trees.getElement(new TreePath(getCurrentPath(), tree));
    }

    private long line(Tree tree, boolean end) {
        long at = end ? positions.getEndPosition(unit, tree) : positions.getStartPosition(unit, tree);
        return unit.getLineMap().getLineNumber(at);
    }

    @Override
    public Void scan(Tree tree, Void nothing) {
        if (tree != null) {
            CHECK.holds("rules 2, 6: no " + tree.getKind() + " at " + line(tree, false), !RULED_OUT.contains(tree.getKind()));
        }
        return super.scan(tree, nothing);
    }

    @Override
    public Void visitClass(ClassTree tree, Void nothing) {
        classes++;
        Set<Modifier> flags = tree.getModifiers().getFlags();
        String name = tree.getSimpleName().toString();
        boolean outer = name.equals("BranchGuess");
        CHECK.holds("rules 1, 2: " + name + " is " + flags, outer
            ? flags.equals(Set.of(Modifier.PUBLIC, Modifier.FINAL))
            : flags.contains(Modifier.STATIC) && !flags.contains(Modifier.PUBLIC) && !flags.contains(Modifier.PROTECTED));
        int fields = 0;
        for (Tree member : tree.getMembers()) {
            CHECK.holds("rule 5: no initialiser block in " + name, !(member instanceof BlockTree));
            if (member instanceof VariableTree field) {
                Set<Modifier> ofField = field.getModifiers().getFlags();
                boolean fixed = ofField.contains(Modifier.STATIC);
                fields += fixed ? 0 : 1;
                CHECK.holds("rule 5: " + field.getName(), !fixed || ofField.contains(Modifier.FINAL));
                CHECK.holds("rule 1: " + field.getName(), !outer || ofField.contains(Modifier.PRIVATE)
                    || field.getName().contentEquals("NONE"));
            }
        }
        CHECK.holds("rule 11: " + name + " has " + fields + " fields", fields <= MOST_FIELDS);
        return super.visitClass(tree, nothing);
    }

    @Override
    public Void visitMethod(MethodTree tree, Void nothing) {
        Element before = caller;
        caller = trees.getElement(getCurrentPath());
        callees.put(caller, new HashSet<>());
        CHECK.holds("rule 11: parameters of " + tree.getName(), tree.getParameters().size() <= MOST_PARAMETERS);
        long lines = line(tree, true) - line(tree, false) + 1;
        CHECK.holds("rule 11: " + tree.getName() + " has " + lines + " lines", lines <= MOST_LINES);
        CHECK.holds("rule 6: " + tree.getName() + " throws nothing", tree.getThrows().isEmpty());
        super.visitMethod(tree, nothing);
        caller = before;
        return null;
    }

    @Override
    public Void visitVariable(VariableTree tree, Void nothing) {
        TypeMirror type = trees.getElement(getCurrentPath()).asType();
        boolean own = type.toString().matches("BranchGuess(\\.[A-Z][a-z]+)?(\\[\\])?");
        CHECK.holds("rule 3: " + tree, own || TYPES.contains(type.toString()));
        return super.visitVariable(tree, nothing);
    }

    @Override
    public Void visitMethodInvocation(MethodInvocationTree tree, Void nothing) {
        Element called = element(tree.getMethodSelect());
        String name = called.getEnclosingElement() + "." + called.getSimpleName();
        if (name.startsWith("BranchGuess")) {
            CHECK.holds("rule 12: " + name + " is called by a method", caller != null);
            CHECK.holds("a constructor calls no method of its own: " + name, caller == null
                || caller.getKind() != ElementKind.CONSTRUCTOR);
            if (caller != null) {
                callees.get(caller).add(called);
            }
        } else {
            CHECK.holds("rule 4: " + name, LIBRARY.contains(name));
        }
        return super.visitMethodInvocation(tree, nothing);
    }

    private boolean inCall() {
        return caller != null && caller.getKind() == ElementKind.METHOD;
    }

    @Override
    public Void visitNewClass(NewClassTree tree, Void nothing) {
        CHECK.holds("no call makes an object: " + tree, !inCall());
        CHECK.holds("rule 2: no class without a name: " + tree, tree.getClassBody() == null);
        return super.visitNewClass(tree, nothing);
    }

    @Override
    public Void visitNewArray(NewArrayTree tree, Void nothing) {
        CHECK.holds("no call makes an array: " + tree, !inCall());
        return super.visitNewArray(tree, nothing);
    }

    @Override
    public Void visitTypeCast(TypeCastTree tree, Void nothing) {
        CHECK.holds("rule 6: a cast among numbers: " + tree, tree.getType().getKind() == Tree.Kind.PRIMITIVE_TYPE);
        return super.visitTypeCast(tree, nothing);
    }

    @Override
    public Void visitBinary(BinaryTree tree, Void nothing) {
        if (tree.getKind() == Tree.Kind.DIVIDE || tree.getKind() == Tree.Kind.REMAINDER) {
            isConstantDivisor(tree.getRightOperand());
        }
        return super.visitBinary(tree, nothing);
    }

    @Override
    public Void visitCompoundAssignment(CompoundAssignmentTree tree, Void nothing) {
        if (tree.getKind() == Tree.Kind.DIVIDE_ASSIGNMENT || tree.getKind() == Tree.Kind.REMAINDER_ASSIGNMENT) {
            isConstantDivisor(tree.getExpression());
        }
        return super.visitCompoundAssignment(tree, nothing);
    }

    private void isConstantDivisor(ExpressionTree divisor) {
        boolean fine = divisor.getKind() == Tree.Kind.INT_LITERAL && !divisor.toString().equals("0");
        if (element(divisor) instanceof VariableElement variable) {
            fine = variable.getConstantValue() instanceof Integer value && value != 0;
        }
        CHECK.holds("rule 7: a divisor that can't be 0: " + divisor, fine);
    }

    @Override
    public Void visitWhileLoop(WhileLoopTree tree, Void nothing) {
        CHECK.holds("rule 9: a bound can be seen: " + tree.getCondition(),
            tree.getCondition().toString().matches(".*[a-z] [<>] .*"));
        return super.visitWhileLoop(tree, nothing);
    }

    private void depths() {
        int deepest = 0;
        for (Element method : callees.keySet()) {
            deepest = Math.max(deepest, depth(method, new HashSet<>()));
        }
        CHECK.holds("rule 11: calls go " + deepest + " deep", deepest <= MOST_DEPTH);
        System.out.println("calls go " + deepest + " deep, " + classes + " classes");
    }

    private int depth(Element method, Set<Element> open) {
        if (!open.add(method)) {
            CHECK.holds("rule 8: no recursion by " + method, false);
            return 0;
        }
        int deepest = 0;
        for (Element called : callees.getOrDefault(method, Set.of())) {
            deepest = Math.max(deepest, depth(called, open));
        }
        open.remove(method);
        return 1 + deepest;
    }
}
