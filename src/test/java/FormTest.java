import com.sun.source.tree.ClassTree;
import com.sun.source.tree.CompilationUnitTree;
import com.sun.source.tree.ExpressionTree;
import com.sun.source.tree.ForLoopTree;
import com.sun.source.tree.MemberSelectTree;
import com.sun.source.tree.MethodInvocationTree;
import com.sun.source.tree.MethodTree;
import com.sun.source.tree.NewArrayTree;
import com.sun.source.tree.Tree;
import com.sun.source.tree.TypeCastTree;
import com.sun.source.tree.VariableTree;
import com.sun.source.util.JavacTask;
import com.sun.source.util.SourcePositions;
import com.sun.source.util.TreeScanner;
import com.sun.source.util.Trees;
import java.io.File;
import java.io.IOException;
import java.util.EnumSet;
import java.util.HashMap;
import java.util.HashSet;
import java.util.List;
import java.util.Map;
import java.util.Set;
import javax.lang.model.element.Modifier;
import javax.tools.JavaCompiler;
import javax.tools.StandardJavaFileManager;
import javax.tools.ToolProvider;

/**
 * The rules of LANGUAGE.md that can be read off the text of the class, some of them more strictly
 * than they are written: the class has no other loops than those that count up by one. Rule 1 is
 * in FaceTest; that no call throws (7) and that the same calls give the same answers (11) is for
 * the other tests.
 */
public final class FormTest extends TreeScanner<Void, Void> {
    private static final Due due = new Due();
    private static final String PATH = "src/main/java/SignMatrices.java";

    private static final Set<Tree.Kind> NOT_USED = EnumSet.of(
            Tree.Kind.THROW, Tree.Kind.TRY, Tree.Kind.CATCH, Tree.Kind.SYNCHRONIZED,
            Tree.Kind.ASSERT, Tree.Kind.INSTANCE_OF, Tree.Kind.LAMBDA_EXPRESSION,
            Tree.Kind.MEMBER_REFERENCE, Tree.Kind.NULL_LITERAL, Tree.Kind.STRING_LITERAL,
            Tree.Kind.FLOAT_LITERAL, Tree.Kind.DOUBLE_LITERAL, Tree.Kind.NEW_CLASS,
            Tree.Kind.INTERFACE, Tree.Kind.ENUM, Tree.Kind.RECORD, Tree.Kind.ENHANCED_FOR_LOOP,
            Tree.Kind.WHILE_LOOP, Tree.Kind.DO_WHILE_LOOP, Tree.Kind.IMPORT, Tree.Kind.PACKAGE);

    private static final Set<String> TYPES = Set.of("int", "long", "short", "byte", "char", "boolean");

    private final Map<String, Set<String>> calls = new HashMap<>();
    private final Set<String> constants = new HashSet<>();
    private CompilationUnitTree unit;
    private JavacTask task;
    private String method = "";
    private int callsAround;
    private int classes;
    private int fields;

    public static void main(String[] args) throws IOException {
        JavaCompiler compiler = ToolProvider.getSystemJavaCompiler();
        FormTest test = new FormTest();
        try (StandardJavaFileManager files = compiler.getStandardFileManager(null, null, null)) {
            test.task = (JavacTask) compiler.getTask(
                    null, files, null, null, null, files.getJavaFileObjects(new File(PATH)));
            for (CompilationUnitTree read : test.task.parse()) {
                test.unit = read;
                test.scan(read, null);
            }
        }
        test.whole();
        due.end();
    }

    private void whole() {
        due.is("rule 1: classes", classes, 1);
        due.holds("rule 10: some forty fields at most, found " + fields, fields <= 40);
        for (String name : calls.keySet()) {
            int depth = depth(name, 1);
            due.holds("rule 10: calls go six deep at most, from " + name + " " + depth, depth <= 6);
        }
    }

    /** Rule 8: a chain longer than there are methods is a ring. */
    private int depth(String name, int sofar) {
        if (sofar > calls.size()) {
            due.holds("rule 8: no recursion, met at " + name, false);
            return sofar;
        }
        int deepest = sofar;
        for (String next : calls.get(name)) {
            if (calls.containsKey(next)) {
                deepest = Math.max(deepest, depth(next, sofar + 1));
            }
        }
        return deepest;
    }

    @Override
    public Void scan(Tree tree, Void none) {
        if (tree != null) {
            due.holds("rules 2 to 8: no " + tree.getKind() + " is used: " + tree, !NOT_USED.contains(tree.getKind()));
        }
        return super.scan(tree, none);
    }

    @Override
    public Void visitClass(ClassTree tree, Void none) {
        classes++;
        for (Tree member : tree.getMembers()) {
            if (member instanceof VariableTree) {
                field((VariableTree) member);
            } else {
                due.holds("rule 5: no initialiser", member.getKind() == Tree.Kind.METHOD);
            }
        }
        return super.visitClass(tree, none);
    }

    private void field(VariableTree field) {
        Set<Modifier> modifiers = field.getModifiers().getFlags();
        if (!modifiers.contains(Modifier.STATIC)) {
            fields++;
            return;
        }
        String type = field.getType().toString();
        String name = field.getName().toString();
        due.holds("rule 5: " + name + " is final", modifiers.contains(Modifier.FINAL));
        due.holds("rule 5: " + name + " is an int or long", type.equals("int") || type.equals("long"));
        due.holds("rule 5: " + name + " is a number", field.getInitializer().toString().matches("-?[0-9]+L?"));
        constants.add(name);
    }

    @Override
    public Void visitMethod(MethodTree tree, Void none) {
        method = tree.getName().toString();
        calls.putIfAbsent(method, new HashSet<>());
        long lines = lineOf(tree, true) - lineOf(tree, false) + 1;
        due.holds("rule 10: " + method + " has some sixty lines at most", lines <= 60);
        due.holds("rule 10: " + method + " takes seven at most", tree.getParameters().size() <= 7);
        if (tree.getReturnType() != null) {
            String type = tree.getReturnType().toString();
            due.holds("rules 2, 4: " + method + " answers " + type, type.equals("void") || TYPES.contains(type));
        }
        super.visitMethod(tree, none);
        method = "";
        return null;
    }

    private long lineOf(Tree tree, boolean end) {
        SourcePositions at = Trees.instance(task).getSourcePositions();
        long position = end ? at.getEndPosition(unit, tree) : at.getStartPosition(unit, tree);
        return unit.getLineMap().getLineNumber(position);
    }

    @Override
    public Void visitVariable(VariableTree tree, Void none) {
        String type = tree.getType().toString().replaceFirst("\\[\\]$", "");
        due.holds("rule 2: " + tree + " is of a type that may be used", TYPES.contains(type));
        return super.visitVariable(tree, none);
    }

    @Override
    public Void visitNewArray(NewArrayTree tree, Void none) {
        due.holds("rule 4: " + method + " makes no array", method.isEmpty());
        due.holds("rule 4: an array has a length", tree.getInitializers() == null);
        List<? extends ExpressionTree> lengths = tree.getDimensions();
        due.is("rule 2: lengths of an array", lengths.size(), 1);
        String length = lengths.get(0).toString();
        due.holds("rule 4: " + length + " is fixed", constants.contains(length) || length.matches("[1-9][0-9]*"));
        return super.visitNewArray(tree, none);
    }

    /** Only fields are selected, so no member of a class of the library is. */
    @Override
    public Void visitMemberSelect(MemberSelectTree tree, Void none) {
        due.holds("rule 3: " + tree + " is a field", tree.getExpression().toString().equals("this"));
        return super.visitMemberSelect(tree, none);
    }

    @Override
    public Void visitMethodInvocation(MethodInvocationTree tree, Void none) {
        due.is("rule 10: calls around " + tree, callsAround, 0);
        calls.computeIfAbsent(method, key -> new HashSet<>()).add(tree.getMethodSelect().toString());
        callsAround++;
        super.visitMethodInvocation(tree, none);
        callsAround--;
        return null;
    }

    @Override
    public Void visitTypeCast(TypeCastTree tree, Void none) {
        due.holds("rule 6: " + tree + " is between numbers", TYPES.contains(tree.getType().toString()));
        return super.visitTypeCast(tree, none);
    }

    /** Rule 8: one counter goes up by one against a bound and is set nowhere else. */
    @Override
    public Void visitForLoop(ForLoopTree tree, Void none) {
        due.is("rule 8: counters of a loop", tree.getInitializer().size(), 1);
        due.is("rule 8: counters of a loop", tree.getUpdate().size(), 1);
        String counter = ((VariableTree) tree.getInitializer().get(0)).getName().toString();
        due.holds("rule 8: " + counter + " counts", tree.getUpdate().get(0).toString().equals(counter + "++;"));
        String bound = counter + " <=? (this\\.)?\\w+( \\* \\w+)?( && .*)?";
        due.holds("rule 8: " + counter + " has a bound", tree.getCondition().toString().matches(bound));
        due.holds("rule 8: " + counter + " is set nowhere else",
                !tree.getStatement().toString().matches("(?s).*\\b" + counter + "(\\+\\+|--| [-+*/]?= ).*"));
        return super.visitForLoop(tree, none);
    }
}
