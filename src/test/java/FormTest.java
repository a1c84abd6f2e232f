import com.sun.source.tree.ArrayAccessTree;
import com.sun.source.tree.BinaryTree;
import com.sun.source.tree.ClassTree;
import com.sun.source.tree.CompilationUnitTree;
import com.sun.source.tree.ExpressionTree;
import com.sun.source.tree.ForLoopTree;
import com.sun.source.tree.IdentifierTree;
import com.sun.source.tree.MemberSelectTree;
import com.sun.source.tree.MethodInvocationTree;
import com.sun.source.tree.MethodTree;
import com.sun.source.tree.NewArrayTree;
import com.sun.source.tree.Tree;
import com.sun.source.tree.VariableTree;
import com.sun.source.util.JavacTask;
import com.sun.source.util.SourcePositions;
import com.sun.source.util.TreePathScanner;
import com.sun.source.util.Trees;
import java.io.File;
import java.io.IOException;
import java.util.EnumSet;
import java.util.HashMap;
import java.util.HashSet;
import java.util.List;
import java.util.Map;
import java.util.Set;
import javax.lang.model.element.Modifier;
import javax.tools.JavaCompiler;
import javax.tools.StandardJavaFileManager;
import javax.tools.ToolProvider;

/**
 * The rules of LANGUAGE.md as far as they can be read off the text of the class, many of them more
 * strictly than they are written, since the class needs no more: arrays are made in the fields'
 * initialisers alone, no local variable names an array, and all loops count up by one. The public
 * face (rule 1) is in FaceTest; that no call throws (7) and that the same calls give the same
 * answers (11) is in AnyCallTest.
 */
public final class FormTest extends TreePathScanner<Void, Void> {
    private static final Due due = new Due();
    private static final String PATH = "src/main/java/SignMatrices.java";

    /**
     * All that the class may be made of: with no new object, cast, text, null, exception, lambda,
     * import or inner class among these, rules 2, 3, 6 and 11 have little left to forbid.
     */
    private static final Set<Tree.Kind> USED = EnumSet.of(
            Tree.Kind.COMPILATION_UNIT, Tree.Kind.CLASS, Tree.Kind.METHOD, Tree.Kind.VARIABLE,
            Tree.Kind.MODIFIERS, Tree.Kind.PRIMITIVE_TYPE, Tree.Kind.ARRAY_TYPE, Tree.Kind.NEW_ARRAY,
            Tree.Kind.BLOCK, Tree.Kind.IF, Tree.Kind.FOR_LOOP, Tree.Kind.RETURN, Tree.Kind.BREAK,
            Tree.Kind.CONTINUE, Tree.Kind.LABELED_STATEMENT, Tree.Kind.SWITCH, Tree.Kind.CASE,
            Tree.Kind.EXPRESSION_STATEMENT, Tree.Kind.ASSIGNMENT, Tree.Kind.PLUS_ASSIGNMENT,
            Tree.Kind.MINUS_ASSIGNMENT, Tree.Kind.MULTIPLY_ASSIGNMENT, Tree.Kind.POSTFIX_INCREMENT,
            Tree.Kind.POSTFIX_DECREMENT, Tree.Kind.METHOD_INVOCATION, Tree.Kind.ARRAY_ACCESS,
            Tree.Kind.MEMBER_SELECT, Tree.Kind.IDENTIFIER, Tree.Kind.INT_LITERAL,
            Tree.Kind.LONG_LITERAL, Tree.Kind.BOOLEAN_LITERAL, Tree.Kind.PARENTHESIZED,
            Tree.Kind.CONDITIONAL_EXPRESSION, Tree.Kind.CONDITIONAL_AND, Tree.Kind.CONDITIONAL_OR,
            Tree.Kind.LOGICAL_COMPLEMENT, Tree.Kind.UNARY_MINUS, Tree.Kind.PLUS, Tree.Kind.MINUS,
            Tree.Kind.MULTIPLY, Tree.Kind.DIVIDE, Tree.Kind.REMAINDER, Tree.Kind.LEFT_SHIFT,
            Tree.Kind.RIGHT_SHIFT, Tree.Kind.AND, Tree.Kind.OR, Tree.Kind.XOR, Tree.Kind.LESS_THAN,
            Tree.Kind.LESS_THAN_EQUAL, Tree.Kind.GREATER_THAN, Tree.Kind.GREATER_THAN_EQUAL,
            Tree.Kind.EQUAL_TO, Tree.Kind.NOT_EQUAL_TO);

    private static final Set<String> TYPES = Set.of("int", "long", "short", "byte", "char", "boolean");

    private final Map<String, Set<String>> calls = new HashMap<>();
    private final Map<String, Long> constants = new HashMap<>();
    private final Set<String> arrays = new HashSet<>();
    private CompilationUnitTree unit;
    private JavacTask task;
    private String method = "";
    private int callsAround;
    private int classes;
    private int fields;

    public static void main(String[] args) throws IOException {
        JavaCompiler compiler = ToolProvider.getSystemJavaCompiler();
        FormTest test = new FormTest();
        try (StandardJavaFileManager files = compiler.getStandardFileManager(null, null, null)) {
            test.task = (JavacTask) compiler.getTask(
                    null, files, null, null, null, files.getJavaFileObjects(new File(PATH)));
            for (CompilationUnitTree read : test.task.parse()) {
                test.unit = read;
                test.scan(read, null);
            }
        }
        test.whole();
        due.end();
    }

    private void whole() {
        due.is("rule 1: classes", classes, 1);
        due.holds("rule 10: some forty fields at most, found " + fields, fields <= 40);
        for (String name : calls.keySet()) {
            int depth = depth(name, 1);
            due.holds("rule 10: calls go six deep at most, from " + name + " " + depth, depth <= 6);
        }
    }

    /** Rule 8: a chain longer than there are methods is a ring. */
    private int depth(String name, int sofar) {
        if (sofar > calls.size()) {
            due.holds("rule 8: no recursion, met at " + name, false);
            return sofar;
        }
        int deepest = sofar;
        for (String next : calls.get(name)) {
            due.holds("rule 3: " + next + " is a method of the class", calls.containsKey(next));
            if (calls.containsKey(next)) {
                deepest = Math.max(deepest, depth(next, sofar + 1));
            }
        }
        return deepest;
    }

    @Override
    public Void scan(Tree tree, Void none) {
        if (tree != null) {
            due.holds("rules 2 to 9: what is used is " + tree.getKind() + ": " + tree, USED.contains(tree.getKind()));
        }
        return super.scan(tree, none);
    }

    @Override
    public Void visitClass(ClassTree tree, Void none) {
        classes++;
        for (Tree member : tree.getMembers()) {
            if (member instanceof VariableTree) {
                field((VariableTree) member);
            } else {
                due.holds("rule 5: no initialiser", member.getKind() == Tree.Kind.METHOD);
            }
        }
        return super.visitClass(tree, none);
    }

    private void field(VariableTree field) {
        Set<Modifier> modifiers = field.getModifiers().getFlags();
        String name = field.getName().toString();
        due.holds("rule 11: " + name + " is a plain field",
                Set.of(Modifier.PRIVATE, Modifier.STATIC, Modifier.FINAL).containsAll(modifiers));
        if (modifiers.contains(Modifier.STATIC)) {
            constant(name, field, modifiers);
            return;
        }
        fields++;
        if (isArray(field)) {
            due.holds("rule 4: no method assigns to " + name, modifiers.contains(Modifier.FINAL));
            due.holds("rule 4: " + name + " is made in its initialiser", field.getInitializer() instanceof NewArrayTree);
            arrays.add(name);
        }
    }

    private void constant(String name, VariableTree field, Set<Modifier> modifiers) {
        String type = field.getType().toString();
        String value = String.valueOf(field.getInitializer());
        boolean number = value.matches("-?[0-9]+L?");
        due.holds("rule 5: " + name + " is final", modifiers.contains(Modifier.FINAL));
        due.holds("rule 5: " + name + " is an int or long", type.equals("int") || type.equals("long"));
        due.holds("rule 5: " + name + " is a number", number);
        constants.put(name, number ? Long.parseLong(value.replace("L", "")) : 0);
    }

    private static boolean isArray(VariableTree variable) {
        return variable.getType().getKind() == Tree.Kind.ARRAY_TYPE;
    }

    @Override
    public Void visitMethod(MethodTree tree, Void none) {
        method = tree.getName().toString();
        due.holds("rule 10: one method is named " + method, calls.put(method, new HashSet<>()) == null);
        long lines = lineOf(tree, true) - lineOf(tree, false) + 1;
        due.holds("rule 10: " + method + " has some sixty lines at most", lines <= 60);
        due.holds("rule 10: " + method + " takes seven at most", tree.getParameters().size() <= 7);
        due.holds("rule 6: " + method + " throws nothing", tree.getThrows().isEmpty());
        due.holds("rule 11: " + method + " is a plain method",
                Set.of(Modifier.PUBLIC, Modifier.PRIVATE).containsAll(tree.getModifiers().getFlags()));
        if (tree.getReturnType() != null) {
            String type = tree.getReturnType().toString();
            due.holds("rules 2, 4: " + method + " answers " + type, type.equals("void") || TYPES.contains(type));
        }
        Set<String> fieldsAlone = new HashSet<>(arrays);
        for (VariableTree parameter : tree.getParameters()) {
            if (isArray(parameter)) {
                arrays.add(parameter.getName().toString());
            }
        }
        super.visitMethod(tree, none);
        arrays.retainAll(fieldsAlone);
        method = "";
        return null;
    }

    private long lineOf(Tree tree, boolean end) {
        SourcePositions at = Trees.instance(task).getSourcePositions();
        long position = end ? at.getEndPosition(unit, tree) : at.getStartPosition(unit, tree);
        return unit.getLineMap().getLineNumber(position);
    }

    private Tree around() {
        return getCurrentPath().getParentPath().getLeaf();
    }

    @Override
    public Void visitVariable(VariableTree tree, Void none) {
        String type = tree.getType().toString().replaceFirst("\\[\\]$", "");
        due.holds("rule 2: " + tree + " is of a type that may be used", TYPES.contains(type));
        boolean local = !method.isEmpty() && around().getKind() != Tree.Kind.METHOD;
        due.holds("rule 4: no local variable names an array: " + tree, !local || !isArray(tree));
        return super.visitVariable(tree, none);
    }

    @Override
    public Void visitNewArray(NewArrayTree tree, Void none) {
        due.holds("rule 4: " + method + " makes no array", method.isEmpty());
        due.holds("rule 4: an array is made for a field", around().getKind() == Tree.Kind.VARIABLE);
        due.holds("rule 4: an array has a length", tree.getInitializers() == null);
        List<? extends ExpressionTree> lengths = tree.getDimensions();
        due.is("rule 2: lengths of an array", lengths.size(), 1);
        due.holds("rule 4: " + tree + " has a fixed length, 1 or more", fixed(lengths.get(0)) >= 1);
        return super.visitNewArray(tree, none);
    }

    /** The value of a number or of a constant, 0 for all that is not fixed. */
    private long fixed(Tree tree) {
        String text = tree.toString();
        return text.matches("[0-9]+") ? Long.parseLong(text) : constants.getOrDefault(text, 0L);
    }

    /** Rule 4: an array is indexed or handed on; so it is not answered, compared or assigned to. */
    @Override
    public Void visitIdentifier(IdentifierTree tree, Void none) {
        if (arrays.contains(tree.getName().toString())) {
            Tree around = around();
            boolean indexed = around instanceof ArrayAccessTree && ((ArrayAccessTree) around).getExpression() == tree;
            boolean handedOn = around instanceof MethodInvocationTree && !method.equals("<init>");
            due.holds("rule 4: " + tree + " is indexed or handed on in " + around, indexed || handedOn);
        }
        return super.visitIdentifier(tree, none);
    }

    /** Only fields are selected, so no member of a class of the library is. */
    @Override
    public Void visitMemberSelect(MemberSelectTree tree, Void none) {
        due.holds("rule 3: " + tree + " is a field", tree.getExpression().toString().equals("this"));
        due.holds("rule 4: " + tree + " is no array", !arrays.contains(tree.getIdentifier().toString()));
        return super.visitMemberSelect(tree, none);
    }

    @Override
    public Void visitMethodInvocation(MethodInvocationTree tree, Void none) {
        due.is("rule 10: calls around " + tree, callsAround, 0);
        due.holds("rule 4: " + tree + " is called where the arrays are made", !method.isEmpty());
        String name = tree.getMethodSelect().toString();
        if (!name.equals("super")) {
            calls.computeIfAbsent(method, key -> new HashSet<>()).add(name);
        }
        callsAround++;
        super.visitMethodInvocation(tree, none);
        callsAround--;
        return null;
    }

    /** Rule 7: "a divisor before it divides"; the constructor makes size 1 or more. */
    @Override
    public Void visitBinary(BinaryTree tree, Void none) {
        if (tree.getKind() == Tree.Kind.DIVIDE || tree.getKind() == Tree.Kind.REMAINDER) {
            Tree by = tree.getRightOperand();
            due.holds("rule 7: " + tree + " does not divide by 0", by.toString().equals("size") || fixed(by) != 0);
        }
        return super.visitBinary(tree, none);
    }

    /** Rule 8: one counter goes up by one against a bound; neither is set in the loop. */
    @Override
    public Void visitForLoop(ForLoopTree tree, Void none) {
        due.is("rule 8: counters of a loop", tree.getInitializer().size(), 1);
        due.is("rule 8: counters of a loop", tree.getUpdate().size(), 1);
        String counter = ((VariableTree) tree.getInitializer().get(0)).getName().toString();
        due.holds("rule 8: " + counter + " counts", tree.getUpdate().get(0).toString().equals(counter + "++;"));
        String condition = tree.getCondition().toString();
        String bound = counter + " <=? (this\\.)?\\w+( \\* \\w+)?( && .*)?";
        due.holds("rule 8: " + counter + " has a bound", condition.matches(bound));
        String body = tree.getStatement().toString();
        for (String name : condition.replaceFirst(" && .*", "").split("\\W+")) {
            due.holds("rule 8: " + name + " is set nowhere else",
                    !body.matches("(?s).*\\b" + name + "(\\+\\+|--| [-+*/]?= ).*"));
        }
        return super.visitForLoop(tree, none);
    }
}
