import com.sun.source.tree.ArrayAccessTree;
import com.sun.source.tree.ArrayTypeTree;
import com.sun.source.tree.AssignmentTree;
import com.sun.source.tree.BinaryTree;
import com.sun.source.tree.BlockTree;
import com.sun.source.tree.ClassTree;
import com.sun.source.tree.CompilationUnitTree;
import com.sun.source.tree.CompoundAssignmentTree;
import com.sun.source.tree.ExpressionTree;
import com.sun.source.tree.ForLoopTree;
import com.sun.source.tree.IdentifierTree;
import com.sun.source.tree.LiteralTree;
import com.sun.source.tree.MethodInvocationTree;
import com.sun.source.tree.MethodTree;
import com.sun.source.tree.NewArrayTree;
import com.sun.source.tree.PrimitiveTypeTree;
import com.sun.source.tree.StatementTree;
import com.sun.source.tree.Tree;
import com.sun.source.tree.Tree.Kind;
import com.sun.source.tree.TypeCastTree;
import com.sun.source.tree.UnaryTree;
import com.sun.source.tree.VariableTree;
import com.sun.source.util.JavacTask;
import com.sun.source.util.SourcePositions;
import com.sun.source.util.TreePath;
import com.sun.source.util.TreePathScanner;
import com.sun.source.util.TreeScanner;
import com.sun.source.util.Trees;
import java.io.IOException;
import java.nio.file.Path;
import java.util.ArrayList;
import java.util.EnumSet;
import java.util.HashMap;
import java.util.HashSet;
import java.util.List;
import java.util.Map;
import java.util.Set;
import java.util.TreeSet;
import javax.lang.model.element.Modifier;
import javax.lang.model.type.TypeKind;
import javax.tools.JavaCompiler;
import javax.tools.StandardJavaFileManager;
import javax.tools.ToolProvider;

/**
 * The program's source against the rules of LANGUAGE.md that can be read off its syntax. Where a
 * rule leaves a choice that the program has no need of (arrays made in the constructor or kept in
 * local variables, while loops), the test allows only the simpler form, since that can be checked.
 * Rule 7 cannot be read off the syntax: BoundaryTest and PromisesTest call with all sorts of numbers.
 */
public final class LanguageTest {
    private static final Path PROGRAM = Path.of("src/main/java/GraphCatalogue.java");

    /** Rules 2, 3, 6 and 9: whatever is not here has no place in the program. */
    private static final Set<Kind> ALLOWED = EnumSet.of(
        Kind.COMPILATION_UNIT, Kind.CLASS, Kind.MODIFIERS, Kind.VARIABLE, Kind.METHOD, Kind.BLOCK,
        Kind.PRIMITIVE_TYPE, Kind.ARRAY_TYPE, Kind.NEW_ARRAY, Kind.ARRAY_ACCESS, Kind.IDENTIFIER,
        Kind.INT_LITERAL, Kind.LONG_LITERAL, Kind.CHAR_LITERAL, Kind.BOOLEAN_LITERAL,
        Kind.METHOD_INVOCATION, Kind.TYPE_CAST, Kind.PARENTHESIZED, Kind.CONDITIONAL_EXPRESSION,
        Kind.IF, Kind.FOR_LOOP, Kind.SWITCH, Kind.CASE, Kind.BREAK, Kind.CONTINUE,
        Kind.LABELED_STATEMENT, Kind.RETURN, Kind.EXPRESSION_STATEMENT, Kind.EMPTY_STATEMENT);

    private static final Set<TypeKind> NUMBERS = EnumSet.of(TypeKind.INT, TypeKind.LONG,
        TypeKind.SHORT, TypeKind.BYTE, TypeKind.CHAR, TypeKind.BOOLEAN);

    private static final Set<Kind> STEPS = EnumSet.of(Kind.PREFIX_INCREMENT, Kind.PREFIX_DECREMENT,
        Kind.POSTFIX_INCREMENT, Kind.POSTFIX_DECREMENT);

    private static final Set<Kind> BOUNDS =
        EnumSet.of(Kind.LESS_THAN, Kind.LESS_THAN_EQUAL, Kind.GREATER_THAN, Kind.GREATER_THAN_EQUAL);

    private final CompilationUnitTree unit;
    private final SourcePositions positions;
    private final ClassTree program;
    private final Set<String> constants = new HashSet<>();
    private final Set<String> arrays = new HashSet<>();
    private final Map<String, Set<String>> calls = new HashMap<>();
    private int wrong = 0;

    private LanguageTest(CompilationUnitTree unit, SourcePositions positions) {
        this.unit = unit;
        this.positions = positions;
        program = (ClassTree) unit.getTypeDecls().get(0);
    }

    private void rule(int number, boolean kept, Tree where, String fault) {
        if (!kept) {
            wrong++;
            System.out.println("line " + line(positions.getStartPosition(unit, where))
                + ": rule " + number + ": " + fault);
        }
    }

    private long line(long position) {
        return unit.getLineMap().getLineNumber(position);
    }

    private static boolean isOperator(Tree tree) {
        return tree instanceof BinaryTree || tree instanceof UnaryTree
            || tree instanceof AssignmentTree || tree instanceof CompoundAssignmentTree;
    }

    private static boolean isNumberType(Tree type) {
        return type instanceof PrimitiveTypeTree
            && NUMBERS.contains(((PrimitiveTypeTree) type).getPrimitiveTypeKind());
    }

    private static boolean isArrayType(Tree type) {
        return type instanceof ArrayTypeTree && isNumberType(((ArrayTypeTree) type).getType());
    }

    private static boolean isConstructor(MethodTree method) {
        return method.getName().contentEquals("<init>");
    }

    private static boolean isPrivate(MethodTree method) {
        return method.getModifiers().getFlags().contains(Modifier.PRIVATE);
    }

    private boolean isConstant(ExpressionTree length) {
        if (length.getKind() == Kind.INT_LITERAL) return (int) ((LiteralTree) length).getValue() >= 1;
        return constants.contains(length.toString());
    }

    private void check() {
        rule(1, unit.getTypeDecls().size() == 1, unit, "more than one class in the file");
        members();
        names();
        everyTree();
        for (String method : calls.keySet()) depth(method, List.of());
    }

    private void members() {
        int fields = 0;
        for (Tree member : program.getMembers()) {
            if (member instanceof VariableTree) {
                VariableTree field = (VariableTree) member;
                if (field.getModifiers().getFlags().contains(Modifier.STATIC)) {
                    constant(field);
                } else {
                    field(field);
                    fields++;
                }
            } else if (member instanceof MethodTree) {
                method((MethodTree) member);
            } else {
                rule(1, !(member instanceof ClassTree), member, "a nested class");
                rule(5, !(member instanceof BlockTree), member, "an initialiser");
            }
        }
        rule(10, fields <= 40, program, fields + " fields beside the constants");
    }

    private void constant(VariableTree field) {
        constants.add(field.getName().toString());
        boolean isFinal = field.getModifiers().getFlags().contains(Modifier.FINAL);
        String type = field.getType().toString();
        rule(5, isFinal && (type.equals("int") || type.equals("long")), field, "not a constant");
        new TreeScanner<Void, Void>() {
            @Override
            public Void scan(Tree part, Void nothing) {
                boolean plain = part == null || part instanceof LiteralTree || isOperator(part)
                    || part.getKind() == Kind.PARENTHESIZED || constants.contains(part.toString());
                rule(5, plain, field, "not known when compiled: " + part);
                return super.scan(part, nothing);
            }
        }.scan(field.getInitializer(), null);
    }

    private void field(VariableTree field) {
        if (isNumberType(field.getType())) return;
        arrays.add(field.getName().toString());
        boolean isFinal = field.getModifiers().getFlags().contains(Modifier.FINAL);
        rule(4, isFinal && field.getInitializer() instanceof NewArrayTree, field,
            "an array field that is not made once, in its initialiser");
    }

    private void method(MethodTree method) {
        String name = method.getName().toString();
        Tree answer = method.getReturnType();
        rule(4, isConstructor(method) || answer instanceof PrimitiveTypeTree, method,
            name + " answers more than a number");
        rule(6, !method.getModifiers().getFlags().contains(Modifier.SYNCHRONIZED), method,
            name + " is synchronized");
        rule(10, method.getParameters().size() <= 7, method, name + " has over seven parameters");
        long first = line(positions.getStartPosition(unit, method));
        long last = line(positions.getEndPosition(unit, method));
        rule(10, last - first < 60, method, name + " is longer than sixty lines");
        calls.put(name, new TreeSet<>());
    }

    private void names() {
        Set<String> shown = new HashSet<>();
        for (Tree member : program.getMembers()) {
            if (member instanceof MethodTree && !isPrivate((MethodTree) member)) {
                shown.add(((MethodTree) member).getName().toString());
            }
        }
        for (Tree member : program.getMembers()) {
            if (member instanceof MethodTree && isPrivate((MethodTree) member)) {
                String name = ((MethodTree) member).getName().toString();
                rule(1, !shown.contains(name), member, name + " is a public method's name");
            }
        }
    }

    private void everyTree() {
        new TreePathScanner<Void, Void>() {
            @Override
            public Void scan(Tree tree, Void nothing) {
                if (tree != null) {
                    boolean allowed = isOperator(tree) || ALLOWED.contains(tree.getKind());
                    rule(6, allowed, tree, "(or rule 2, 3, 8) " + tree.getKind() + ": " + tree);
                }
                return super.scan(tree, nothing);
            }

            @Override
            public Void visitVariable(VariableTree variable, Void nothing) {
                boolean isField = getCurrentPath().getParentPath().getLeaf() == program;
                Tree type = variable.getType();
                rule(2, isNumberType(type) || isField && isArrayType(type), variable,
                    variable.getName() + " is neither a number nor an array field");
                return super.visitVariable(variable, nothing);
            }

            @Override
            public Void visitTypeCast(TypeCastTree cast, Void nothing) {
                rule(6, isNumberType(cast.getType()), cast, "a cast that is not to a number");
                return super.visitTypeCast(cast, nothing);
            }

            @Override
            public Void visitNewArray(NewArrayTree array, Void nothing) {
                TreePath parent = getCurrentPath().getParentPath();
                boolean isField = parent.getLeaf() instanceof VariableTree
                    && parent.getParentPath().getLeaf() == program;
                boolean isSized = array.getInitializers() == null
                    && array.getDimensions().size() == 1 && isConstant(array.getDimensions().get(0));
                rule(4, isField, array, "an array made outside a field's initialiser");
                rule(4, isSized, array, "an array whose length is no constant of 1 or more");
                return super.visitNewArray(array, nothing);
            }

            @Override
            public Void visitIdentifier(IdentifierTree name, Void nothing) {
                Tree parent = getCurrentPath().getParentPath().getLeaf();
                boolean isIndexed = parent instanceof ArrayAccessTree
                    && ((ArrayAccessTree) parent).getExpression() == name;
                rule(4, isIndexed || !arrays.contains(name.toString()), name,
                    "the array " + name + " is used other than by an index");
                return super.visitIdentifier(name, nothing);
            }

            @Override
            public Void visitMethodInvocation(MethodInvocationTree call, Void nothing) {
                String callee = call.getMethodSelect().toString();
                rule(3, calls.containsKey(callee), call, callee + " is not the class's own");
                for (ExpressionTree argument : call.getArguments()) {
                    rule(10, !hasCall(argument), call, "a call inside the arguments of " + callee);
                }
                calls.get(caller()).add(callee);
                return super.visitMethodInvocation(call, nothing);
            }

            private String caller() {
                TreePath path = getCurrentPath();
                while (!(path.getLeaf() instanceof MethodTree)) {
                    path = path.getParentPath();
                    // A call in a field's initialiser stands before the constructor's own lines.
                    if (path == null) return "<init>";
                }
                return ((MethodTree) path.getLeaf()).getName().toString();
            }

            @Override
            public Void visitForLoop(ForLoopTree loop, Void nothing) {
                rule(8, endIsSeen(loop), loop, "a loop without a counter against a bound");
                return super.visitForLoop(loop, nothing);
            }
        }.scan(unit, null);
    }

    private static boolean hasCall(Tree tree) {
        boolean[] found = {false};
        new TreeScanner<Void, Void>() {
            @Override
            public Void visitMethodInvocation(MethodInvocationTree call, Void nothing) {
                found[0] = true;
                return null;
            }
        }.scan(tree, null);
        return found[0];
    }

    /** A counter of the loop's own goes step by step to a bound, and the body sets neither. */
    private static boolean endIsSeen(ForLoopTree loop) {
        List<? extends StatementTree> start = loop.getInitializer();
        if (start.size() != 1 || !(start.get(0) instanceof VariableTree)) return false;
        if (!(loop.getCondition() instanceof BinaryTree) || loop.getUpdate().size() != 1) return false;
        String counter = ((VariableTree) start.get(0)).getName().toString();
        BinaryTree end = (BinaryTree) loop.getCondition();
        String bound = end.getRightOperand().toString();
        boolean isUp = end.getKind() == Kind.LESS_THAN || end.getKind() == Kind.LESS_THAN_EQUAL;
        String step = loop.getUpdate().get(0).getExpression().toString();
        Set<String> set = assigned(loop.getStatement());
        return BOUNDS.contains(end.getKind()) && end.getLeftOperand().toString().equals(counter)
            && (end.getRightOperand() instanceof IdentifierTree
                || end.getRightOperand() instanceof LiteralTree)
            && step.equals(counter + (isUp ? "++" : "--"))
            && !set.contains(counter) && !set.contains(bound);
    }

    private static Set<String> assigned(Tree body) {
        Set<String> names = new HashSet<>();
        new TreeScanner<Void, Void>() {
            @Override
            public Void visitAssignment(AssignmentTree tree, Void nothing) {
                names.add(tree.getVariable().toString());
                return super.visitAssignment(tree, nothing);
            }

            @Override
            public Void visitCompoundAssignment(CompoundAssignmentTree tree, Void nothing) {
                names.add(tree.getVariable().toString());
                return super.visitCompoundAssignment(tree, nothing);
            }

            @Override
            public Void visitUnary(UnaryTree tree, Void nothing) {
                if (STEPS.contains(tree.getKind())) names.add(tree.getExpression().toString());
                return super.visitUnary(tree, nothing);
            }
        }.scan(body, null);
        return names;
    }

    private void depth(String method, List<String> above) {
        boolean isNew = !above.contains(method);
        rule(8, isNew, program, method + " calls itself, by way of " + above);
        rule(10, above.size() < 6, program, method + " is over six calls deep, below " + above);
        if (!isNew || above.size() >= 6) return;
        List<String> here = new ArrayList<>(above);
        here.add(method);
        for (String callee : calls.get(method)) {
            if (calls.containsKey(callee)) depth(callee, here);
        }
    }

    public static void main(String[] args) throws IOException {
        JavaCompiler compiler = ToolProvider.getSystemJavaCompiler();
        try (StandardJavaFileManager files = compiler.getStandardFileManager(null, null, null)) {
            JavacTask task = (JavacTask) compiler.getTask(null, files, null, null, null,
                files.getJavaFileObjects(PROGRAM));
            CompilationUnitTree unit = task.parse().iterator().next();
            LanguageTest test = new LanguageTest(unit, Trees.instance(task).getSourcePositions());
            test.check();
            int wrong = test.wrong;
            System.out.println(wrong == 0 ? "the source keeps to the rules" : wrong + " faults");
            if (wrong != 0) System.exit(1);
        }
    }
}
