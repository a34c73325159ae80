import com.sun.source.tree.ArrayTypeTree;
import com.sun.source.tree.AssignmentTree;
import com.sun.source.tree.BinaryTree;
import com.sun.source.tree.ClassTree;
import com.sun.source.tree.CompilationUnitTree;
import com.sun.source.tree.CompoundAssignmentTree;
import com.sun.source.tree.ExpressionStatementTree;
import com.sun.source.tree.ExpressionTree;
import com.sun.source.tree.ForLoopTree;
import com.sun.source.tree.IdentifierTree;
import com.sun.source.tree.LiteralTree;
import com.sun.source.tree.MethodInvocationTree;
import com.sun.source.tree.MethodTree;
import com.sun.source.tree.NewArrayTree;
import com.sun.source.tree.PrimitiveTypeTree;
import com.sun.source.tree.Tree;
import com.sun.source.tree.UnaryTree;
import com.sun.source.tree.VariableTree;
import com.sun.source.util.JavacTask;
import com.sun.source.util.TreeScanner;
import com.sun.source.util.Trees;
import java.io.IOException;
import java.nio.file.Path;
import java.util.EnumSet;
import java.util.HashSet;
import java.util.List;
import java.util.Map;
import java.util.Set;
import java.util.TreeMap;
import java.util.TreeSet;
import javax.lang.model.element.Modifier;
import javax.lang.model.type.TypeKind;
import javax.tools.JavaCompiler;
import javax.tools.StandardJavaFileManager;
import javax.tools.ToolProvider;

/**
 * Holds the text of the class against those rules of LANGUAGE.md that a text can be held against.
 * Where that is simpler it is stricter than they are: every loop is a counting for, every array a final field.
 */
public final class LanguageTest {
    private static final Path SOURCE = Path.of("src", "main", "java", "TransformMonoid.java");
    private static final int MOST_PARAMETERS = 7;
    private static final int MOST_LINES = 60;
    private static final int MOST_CALLS_DEEP = 6;
    private static final int MOST_FIELDS = 40;
    private static final Set<TypeKind> WHOLE_NUMBERS = EnumSet.of(
        TypeKind.INT, TypeKind.LONG, TypeKind.SHORT, TypeKind.BYTE, TypeKind.CHAR, TypeKind.BOOLEAN);
    /** Besides operators: what the class may be made of. The rules leave a little more; add it here when it is used. */
    private static final Set<Tree.Kind> KINDS = EnumSet.of(
        Tree.Kind.COMPILATION_UNIT, Tree.Kind.CLASS, Tree.Kind.METHOD, Tree.Kind.VARIABLE, Tree.Kind.MODIFIERS,
        Tree.Kind.PRIMITIVE_TYPE, Tree.Kind.ARRAY_TYPE, Tree.Kind.NEW_ARRAY, Tree.Kind.ARRAY_ACCESS,
        Tree.Kind.IDENTIFIER, Tree.Kind.INT_LITERAL, Tree.Kind.LONG_LITERAL, Tree.Kind.BOOLEAN_LITERAL,
        Tree.Kind.PARENTHESIZED, Tree.Kind.METHOD_INVOCATION, Tree.Kind.CONDITIONAL_EXPRESSION,
        Tree.Kind.ASSIGNMENT, Tree.Kind.EXPRESSION_STATEMENT, Tree.Kind.BLOCK, Tree.Kind.IF,
        Tree.Kind.FOR_LOOP, Tree.Kind.BREAK, Tree.Kind.CONTINUE, Tree.Kind.RETURN);
    private static int wrong = 0;

    private final CompilationUnitTree unit;
    private final Trees trees;
    private final Map<String, MethodTree> methods = new TreeMap<>();
    private final Map<String, VariableTree> constants = new TreeMap<>();
    private final Map<String, VariableTree> fields = new TreeMap<>();
    private final Map<String, Set<String>> callees = new TreeMap<>();

    private LanguageTest(CompilationUnitTree unit, Trees trees) {
        this.unit = unit;
        this.trees = trees;
    }

    private void must(boolean holds, int rule, Tree where, String what) {
        if (!holds) {
            wrong++;
            long start = trees.getSourcePositions().getStartPosition(unit, where);
            System.out.println("rule " + rule + ", line " + unit.getLineMap().getLineNumber(start) + ": " + what);
        }
    }

    private void checkUnit() {
        must(unit.getPackage() == null, 1, unit, "no package line");
        must(unit.getImports().isEmpty(), 3, unit, "nothing is imported");
        must(unit.getTypeDecls().size() == 1, 1, unit, "one class in the file");
        ClassTree type = (ClassTree) unit.getTypeDecls().get(0);
        for (Tree member : type.getMembers()) {
            if (member instanceof MethodTree method) {
                String name = method.getName().toString();
                must(methods.put(name, method) == null, 1, method, "a method's name is its own: " + name);
            } else if (member instanceof VariableTree field) {
                boolean constant = field.getModifiers().getFlags().contains(Modifier.STATIC);
                (constant ? constants : fields).put(field.getName().toString(), field);
            } else {
                must(false, 1, member, "a member is a field, a method or the constructor");
            }
        }
    }

    private void checkKinds() {
        new TreeScanner<Void, Void>() {
            @Override
            public Void scan(Tree tree, Void none) {
                if (tree != null) {
                    boolean operator = tree instanceof BinaryTree || tree instanceof UnaryTree
                        || tree instanceof CompoundAssignmentTree;
                    must(operator || KINDS.contains(tree.getKind()), 6, tree, "no " + tree.getKind());
                }
                return super.scan(tree, none);
            }
        }.scan(unit, null);
    }

    private static boolean isWholeNumber(Tree type) {
        return type instanceof PrimitiveTypeTree primitive && WHOLE_NUMBERS.contains(primitive.getPrimitiveTypeKind());
    }

    private void checkFields() {
        must(fields.size() <= MOST_FIELDS, 10, unit, "at most " + MOST_FIELDS + " fields, not " + fields.size());
        for (VariableTree constant : constants.values()) {
            Set<Modifier> flags = constant.getModifiers().getFlags();
            must(flags.contains(Modifier.PRIVATE) && flags.contains(Modifier.FINAL), 5, constant, "a private constant");
            String type = constant.getType().toString();
            must(type.equals("int") || type.equals("long"), 5, constant, "a constant of int or long");
            must(isConstant(constant.getInitializer()), 5, constant, "a constant that is one when compiled");
        }
        for (VariableTree field : fields.values()) {
            Set<Modifier> flags = field.getModifiers().getFlags();
            must(flags.contains(Modifier.PRIVATE), 1, field, "a private field");
            if (field.getType() instanceof ArrayTypeTree array) {
                must(isWholeNumber(array.getType()), 2, field, "an array of whole numbers, in one dimension");
                must(flags.contains(Modifier.FINAL), 4, field, "an array field that is never assigned again");
                must(field.getInitializer() instanceof NewArrayTree, 4, field, "an array that is made with its field");
            } else {
                must(isWholeNumber(field.getType()), 2, field, "a whole number");
            }
        }
    }

    private boolean isConstant(Tree expression) {
        if (expression instanceof BinaryTree both) {
            return isConstant(both.getLeftOperand()) && isConstant(both.getRightOperand());
        }
        if (expression instanceof UnaryTree one) {
            return isConstant(one.getExpression());
        }
        return expression instanceof LiteralTree || expression instanceof IdentifierTree name
            && constants.containsKey(name.getName().toString());
    }

    private void checkArrays() {
        Set<Tree> madeWithFields = new HashSet<>();
        fields.values().forEach(field -> madeWithFields.add(field.getInitializer()));
        new TreeScanner<Void, Void>() {
            @Override
            public Void visitNewArray(NewArrayTree array, Void none) {
                must(madeWithFields.contains(array), 4, array, "an array is made in a field's initialiser");
                must(array.getInitializers() == null && array.getDimensions().size() == 1
                    && isConstant(array.getDimensions().get(0)), 4, array, "one length, a literal or a constant");
                return super.visitNewArray(array, none);
            }
        }.scan(unit, null);
    }

    private void checkMethods() {
        for (MethodTree method : methods.values()) {
            String name = method.getName().toString();
            Tree answer = method.getReturnType();
            must(answer == null || answer.toString().equals("void") || isWholeNumber(answer), 2, method, name + " answers a number");
            must(method.getParameters().size() <= MOST_PARAMETERS, 10, method, name + " takes few parameters");
            must(method.getThrows().isEmpty(), 6, method, name + " throws nothing");
            long start = unit.getLineMap().getLineNumber(trees.getSourcePositions().getStartPosition(unit, method));
            long end = unit.getLineMap().getLineNumber(trees.getSourcePositions().getEndPosition(unit, method));
            must(end - start < MOST_LINES, 10, method, name + " is short");
            new TreeScanner<Void, Void>() {
                @Override
                public Void visitVariable(VariableTree variable, Void none) {
                    must(isWholeNumber(variable.getType()), 2, variable, variable.getName() + " is a whole number");
                    return super.visitVariable(variable, none);
                }
            }.scan(method, null);
        }
    }

    private static Set<String> calledWithin(Tree tree) {
        Set<String> called = new TreeSet<>();
        new TreeScanner<Void, Void>() {
            @Override
            public Void visitMethodInvocation(MethodInvocationTree call, Void none) {
                called.add(call.getMethodSelect().toString());
                return super.visitMethodInvocation(call, none);
            }
        }.scan(tree, null);
        return called;
    }

    private void checkCalls() {
        methods.forEach((name, method) -> callees.put(name, calledWithin(method)));
        new TreeScanner<Void, Void>() {
            @Override
            public Void visitMethodInvocation(MethodInvocationTree call, Void none) {
                must(methods.containsKey(call.getMethodSelect().toString()), 3, call, "a call of a method of this class");
                for (ExpressionTree argument : call.getArguments()) {
                    must(calledWithin(argument).isEmpty(), 10, call, "no call inside the arguments of another");
                }
                return super.visitMethodInvocation(call, none);
            }
        }.scan(unit, null);
        methods.forEach((name, method) -> {
            boolean recursive = reachable(callees.get(name)).contains(name);
            must(!recursive, 8, method, name + " is not recursive");
            must(depth(name) <= MOST_CALLS_DEEP, 10, method, name + " calls at most six deep");
        });
    }

    private Set<String> reachable(Set<String> from) {
        Set<String> all = new TreeSet<>(from);
        int before;
        do {
            before = all.size();
            for (String name : List.copyOf(all)) {
                all.addAll(callees.getOrDefault(name, Set.of()));
            }
        } while (all.size() > before);
        return all;
    }

    /** How many methods the longest chain of calls from this one has, counted no further than one too many. */
    private int depth(String name) {
        Set<String> level = Set.of(name);
        int depth = 0;
        while (!level.isEmpty() && depth <= MOST_CALLS_DEEP) {
            Set<String> next = new TreeSet<>();
            level.forEach(caller -> next.addAll(callees.getOrDefault(caller, Set.of())));
            level = next;
            depth++;
        }
        return depth;
    }

    private static Set<String> assignedWithin(Tree tree) {
        Set<String> assigned = new TreeSet<>();
        new TreeScanner<Void, Void>() {
            @Override
            public Void visitAssignment(AssignmentTree assignment, Void none) {
                assigned.add(assignment.getVariable().toString());
                return super.visitAssignment(assignment, none);
            }

            @Override
            public Void visitCompoundAssignment(CompoundAssignmentTree assignment, Void none) {
                assigned.add(assignment.getVariable().toString());
                return super.visitCompoundAssignment(assignment, none);
            }

            @Override
            public Void visitUnary(UnaryTree unary, Void none) {
                assigned.add(unary.getExpression().toString());
                return super.visitUnary(unary, none);
            }
        }.scan(tree, null);
        return assigned;
    }

    private void checkLoops() {
        new TreeScanner<Void, Void>() {
            @Override
            public Void visitForLoop(ForLoopTree loop, Void none) {
                must(endIsSeen(loop), 8, loop, "a loop with a counter against a bound that stays");
                return super.visitForLoop(loop, none);
            }
        }.scan(unit, null);
    }

    private boolean endIsSeen(ForLoopTree loop) {
        if (loop.getInitializer().size() != 1 || loop.getUpdate().size() != 1
            || !(loop.getInitializer().get(0) instanceof VariableTree start)) {
            return false;
        }
        String counter = start.getName().toString();
        Set<String> changed = new TreeSet<>(assignedWithin(loop.getStatement()));
        for (String called : reachable(calledWithin(loop.getStatement()))) {
            Set<String> assigned = assignedWithin(methods.get(called));
            assigned.retainAll(fields.keySet());
            changed.addAll(assigned);
        }
        ExpressionTree step = ((ExpressionStatementTree) loop.getUpdate().get(0)).getExpression();
        boolean up = step.toString().equals(counter + "++");
        boolean down = step.toString().equals(counter + "--");
        return (up || down) && !changed.contains(counter) && isBounded(loop.getCondition(), counter, up, changed);
    }

    /** Whether the condition, or one of those joined by && in it, holds the counter against what does not change. */
    private boolean isBounded(ExpressionTree condition, String counter, boolean up, Set<String> changed) {
        if (!(condition instanceof BinaryTree both)) {
            return false;
        }
        if (both.getKind() == Tree.Kind.CONDITIONAL_AND) {
            return isBounded(both.getLeftOperand(), counter, up, changed)
                || isBounded(both.getRightOperand(), counter, up, changed);
        }
        boolean compared = up
            ? both.getKind() == Tree.Kind.LESS_THAN || both.getKind() == Tree.Kind.LESS_THAN_EQUAL
            : both.getKind() == Tree.Kind.GREATER_THAN || both.getKind() == Tree.Kind.GREATER_THAN_EQUAL;
        ExpressionTree bound = both.getRightOperand();
        boolean plain = bound instanceof LiteralTree || bound instanceof IdentifierTree;
        return compared && plain && both.getLeftOperand().toString().equals(counter) && !changed.contains(bound.toString());
    }

    public static void main(String[] args) throws IOException {
        JavaCompiler compiler = ToolProvider.getSystemJavaCompiler();
        try (StandardJavaFileManager files = compiler.getStandardFileManager(null, null, null)) {
            JavacTask task = (JavacTask) compiler.getTask(null, files, null, null, null, files.getJavaFileObjects(SOURCE));
            LanguageTest test = new LanguageTest(task.parse().iterator().next(), Trees.instance(task));
            test.checkUnit();
            test.checkKinds();
            test.checkFields();
            test.checkArrays();
            test.checkMethods();
            test.checkCalls();
            test.checkLoops();
        }
        System.out.println(wrong == 0 ? "the text keeps to the rules" : wrong + " places do not keep to the rules");
        if (wrong != 0) {
            System.exit(1);
        }
    }
}
