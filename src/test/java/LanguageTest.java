import com.sun.source.tree.ArrayTypeTree;
import com.sun.source.tree.AssignmentTree;
import com.sun.source.tree.BinaryTree;
import com.sun.source.tree.BlockTree;
import com.sun.source.tree.ClassTree;
import com.sun.source.tree.CompilationUnitTree;
import com.sun.source.tree.CompoundAssignmentTree;
import com.sun.source.tree.ContinueTree;
import com.sun.source.tree.DoWhileLoopTree;
import com.sun.source.tree.ExpressionStatementTree;
import com.sun.source.tree.ExpressionTree;
import com.sun.source.tree.ForLoopTree;
import com.sun.source.tree.IdentifierTree;
import com.sun.source.tree.LiteralTree;
import com.sun.source.tree.MethodInvocationTree;
import com.sun.source.tree.MethodTree;
import com.sun.source.tree.NewArrayTree;
import com.sun.source.tree.ParenthesizedTree;
import com.sun.source.tree.PrimitiveTypeTree;
import com.sun.source.tree.StatementTree;
import com.sun.source.tree.Tree;
import com.sun.source.tree.TypeCastTree;
import com.sun.source.tree.UnaryTree;
import com.sun.source.tree.VariableTree;
import com.sun.source.tree.WhileLoopTree;
import com.sun.source.util.JavacTask;
import com.sun.source.util.SourcePositions;
import com.sun.source.util.TreeScanner;
import com.sun.source.util.Trees;
import java.nio.file.Path;
import java.util.ArrayList;
import java.util.EnumSet;
import java.util.HashSet;
import java.util.List;
import java.util.Map;
import java.util.Set;
import java.util.TreeMap;
import java.util.TreeSet;
import javax.lang.model.element.Modifier;
import javax.lang.model.type.TypeKind;
import javax.tools.JavaCompiler;
import javax.tools.StandardJavaFileManager;
import javax.tools.ToolProvider;

/**
 * The rules of LANGUAGE.md that can be seen in the source, by their numbers; some are held here more
 * strictly than they are written, where the strict form is the easier one to look at.
 */
public final class LanguageTest {
    private static final Path SOURCE = Path.of("src/main/java/ActionPlanner.java");
    private static final Set<TypeKind> NUMBERS = EnumSet.of(
        TypeKind.INT, TypeKind.LONG, TypeKind.SHORT, TypeKind.BYTE, TypeKind.CHAR, TypeKind.BOOLEAN);
    private static final Set<Tree.Kind> FORBIDDEN = EnumSet.of(
        Tree.Kind.THROW, Tree.Kind.TRY, Tree.Kind.CATCH, Tree.Kind.SYNCHRONIZED, Tree.Kind.ASSERT,
        Tree.Kind.INSTANCE_OF, Tree.Kind.LAMBDA_EXPRESSION, Tree.Kind.MEMBER_REFERENCE, Tree.Kind.NEW_CLASS,
        Tree.Kind.ENHANCED_FOR_LOOP, Tree.Kind.NULL_LITERAL, Tree.Kind.STRING_LITERAL, Tree.Kind.FLOAT_LITERAL,
        Tree.Kind.DOUBLE_LITERAL, Tree.Kind.MEMBER_SELECT, Tree.Kind.PARAMETERIZED_TYPE, Tree.Kind.ANNOTATION,
        Tree.Kind.DIVIDE, Tree.Kind.REMAINDER, Tree.Kind.DIVIDE_ASSIGNMENT, Tree.Kind.REMAINDER_ASSIGNMENT);

    private static final Set<String> constants = new TreeSet<>();
    private static final Set<String> arrays = new TreeSet<>();
    private static final Map<String, Set<String>> calls = new TreeMap<>();

    public static void main(String[] args) throws Exception {
        JavaCompiler compiler = ToolProvider.getSystemJavaCompiler();
        try (StandardJavaFileManager files = compiler.getStandardFileManager(null, null, null)) {
            JavacTask task = (JavacTask) compiler.getTask(null, files, null, null, null, files.getJavaFileObjects(SOURCE));
            for (CompilationUnitTree unit : task.parse()) {
                file(unit, Trees.instance(task).getSourcePositions());
            }
        }
        Check.end();
    }

    private static void file(CompilationUnitTree unit, SourcePositions positions) {
        Check.isTrue("1: no package line", unit.getPackageName() == null);
        Check.due("3: imports", unit.getImports().size(), 0);
        Check.due("1: classes in the file", unit.getTypeDecls().size(), 1);
        ClassTree planner = (ClassTree) unit.getTypeDecls().get(0);
        Check.isTrue("1: a class", planner.getKind() == Tree.Kind.CLASS);
        Check.isTrue("1: public and final", planner.getModifiers().getFlags().equals(Set.of(Modifier.PUBLIC, Modifier.FINAL)));
        int fields = 0;
        for (Tree member : planner.getMembers()) {
            Check.isTrue("1: field or method: " + member, member instanceof VariableTree || member instanceof MethodTree);
            if (member instanceof VariableTree field) {
                fields += field(field) ? 0 : 1;
            }
        }
        Check.isTrue("10: fields beside the constants: " + fields, fields <= 40);
        for (Tree member : planner.getMembers()) {
            if (member instanceof MethodTree method) {
                Check.isTrue("8: one method by the name: " + method.getName(), calls.put(name(method), new TreeSet<>()) == null);
            }
        }
        for (Tree member : planner.getMembers()) {
            if (member instanceof MethodTree method) {
                long first = unit.getLineMap().getLineNumber(positions.getStartPosition(unit, method));
                long last = unit.getLineMap().getLineNumber(positions.getEndPosition(unit, method));
                Check.isTrue("10: lines of " + name(method), last - first < 60);
                method(method);
            }
        }
        unit.accept(new EveryTree(), null);
        for (String method : calls.keySet()) {
            int depth = depth(method, List.of());
            Check.isTrue("10: calls from " + method + " are " + depth + " deep", depth <= 6);
        }
    }

    /** Looks at a field; answers whether it is a constant. */
    private static boolean field(VariableTree field) {
        boolean isStatic = field.getModifiers().getFlags().contains(Modifier.STATIC);
        if (isStatic) {
            constants.add(field.getName().toString());
            Check.isTrue("5: a constant: " + field, field.getModifiers().getFlags().contains(Modifier.FINAL)
                && field.getInitializer() instanceof LiteralTree
                && field.getType() instanceof PrimitiveTypeTree type
                && (type.getPrimitiveTypeKind() == TypeKind.INT || type.getPrimitiveTypeKind() == TypeKind.LONG));
        }
        if (field.getType() instanceof ArrayTypeTree) {
            arrays.add(field.getName().toString());
            Check.isTrue("4: made in its initialiser, and final: " + field, !isStatic
                && field.getModifiers().getFlags().contains(Modifier.FINAL)
                && field.getInitializer() instanceof NewArrayTree made && hasFixedLength(made));
        } else {
            Check.isTrue("4: an array for an array field alone: " + field, !(field.getInitializer() instanceof NewArrayTree));
        }
        return isStatic;
    }

    private static boolean hasFixedLength(NewArrayTree made) {
        if (made.getInitializers() != null || made.getDimensions().size() != 1) {
            return false;
        }
        ExpressionTree length = made.getDimensions().get(0);
        return length instanceof LiteralTree literal && literal.getValue() instanceof Integer number && number >= 1
            || length instanceof IdentifierTree name && constants.contains(name.getName().toString());
    }

    private static String name(MethodTree method) {
        return method.getName().toString();
    }

    private static void method(MethodTree method) {
        Check.isTrue("10: parameters of " + name(method), method.getParameters().size() <= 7);
        Check.isTrue("6: throws nothing: " + name(method), method.getThrows().isEmpty());
        Check.isTrue("4: answers no array: " + name(method), !(method.getReturnType() instanceof ArrayTypeTree));
        Check.isTrue("1: no type parameters: " + name(method), method.getTypeParameters().isEmpty());
        method.accept(new EveryMethodTree(name(method)), null);
    }

    /** How many calls stand one in another, the given one counted; far more than allowed if it comes back to itself. */
    private static int depth(String method, List<String> callers) {
        if (callers.contains(method)) {
            Check.isTrue("8: recursion through " + callers, false);
            return 1000;
        }
        List<String> chain = new ArrayList<>(callers);
        chain.add(method);
        int deepest = 0;
        for (String called : calls.getOrDefault(method, Set.of())) {
            deepest = Math.max(deepest, depth(called, chain));
        }
        return deepest + 1;
    }

    /** What holds everywhere in the file. */
    private static final class EveryTree extends TreeScanner<Void, Void> {
        @Override
        public Void scan(Tree tree, Void nothing) {
            if (tree != null) {
                Check.isTrue("2, 3, 6 or 7: " + tree.getKind() + " " + tree, !FORBIDDEN.contains(tree.getKind()));
            }
            return super.scan(tree, nothing);
        }

        @Override
        public Void visitPrimitiveType(PrimitiveTypeTree type, Void nothing) {
            TypeKind kind = type.getPrimitiveTypeKind();
            Check.isTrue("2: type " + type, NUMBERS.contains(kind) || kind == TypeKind.VOID);
            return super.visitPrimitiveType(type, nothing);
        }

        @Override
        public Void visitVariable(VariableTree variable, Void nothing) {
            Tree type = variable.getType() instanceof ArrayTypeTree array ? array.getType() : variable.getType();
            Check.isTrue("2: type of " + variable, type instanceof PrimitiveTypeTree);
            return super.visitVariable(variable, nothing);
        }

        @Override
        public Void visitTypeCast(TypeCastTree cast, Void nothing) {
            Check.isTrue("6: cast " + cast, cast.getType() instanceof PrimitiveTypeTree);
            return super.visitTypeCast(cast, nothing);
        }
    }

    /** What holds inside of methods. */
    private static final class EveryMethodTree extends TreeScanner<Void, Void> {
        private final String method;
        private boolean inArguments = false;

        private EveryMethodTree(String method) {
            this.method = method;
        }

        @Override
        public Void visitMethodInvocation(MethodInvocationTree call, Void nothing) {
            String called = call.getMethodSelect().toString();
            // The compiler puts the call of Object's constructor into a constructor by itself.
            if (!(method.equals("<init>") && called.equals("super"))) {
                Check.isTrue("3: a method of the class: " + called, calls.containsKey(called));
                Check.isTrue("10: a call inside of arguments: " + call, !inArguments);
                calls.get(method).add(called);
            }
            boolean before = inArguments;
            inArguments = true;
            scan(call.getArguments(), nothing);
            inArguments = before;
            return null;
        }

        @Override
        public Void visitNewArray(NewArrayTree made, Void nothing) {
            Check.isTrue("4: an array made in " + method + ": " + made, false);
            return super.visitNewArray(made, nothing);
        }

        @Override
        public Void visitAssignment(AssignmentTree assignment, Void nothing) {
            Check.isTrue("4: assigned to an array: " + assignment, !arrays.contains(assignment.getVariable().toString()));
            return super.visitAssignment(assignment, nothing);
        }

        @Override
        public Void visitBinary(BinaryTree binary, Void nothing) {
            Check.isTrue("4: an array compared: " + binary, !arrays.contains(binary.getLeftOperand().toString())
                && !arrays.contains(binary.getRightOperand().toString()));
            return super.visitBinary(binary, nothing);
        }

        @Override
        public Void visitForLoop(ForLoopTree loop, Void nothing) {
            Set<String> counted = new TreeSet<>();
            for (ExpressionStatementTree update : loop.getUpdate()) {
                addCounted(update, counted);
            }
            hasBound("for", loop.getCondition(), counted, loop.getStatement());
            return super.visitForLoop(loop, nothing);
        }

        @Override
        public Void visitWhileLoop(WhileLoopTree loop, Void nothing) {
            hasBound("while", loop.getCondition(), countedIn(loop.getStatement()), loop.getStatement());
            return super.visitWhileLoop(loop, nothing);
        }

        @Override
        public Void visitDoWhileLoop(DoWhileLoopTree loop, Void nothing) {
            hasBound("do", loop.getCondition(), countedIn(loop.getStatement()), loop.getStatement());
            return super.visitDoWhileLoop(loop, nothing);
        }

        /** One part of the condition holds a counter below a bound; the body sets neither of them. */
        private void hasBound(String kind, ExpressionTree condition, Set<String> counted, StatementTree body) {
            Set<String> set = new HashSet<>();
            body.accept(new Assigned(), set);
            boolean found = false;
            for (ExpressionTree part : parts(condition)) {
                if (part instanceof BinaryTree compared && compared.getKind() == Tree.Kind.LESS_THAN) {
                    String counter = compared.getLeftOperand().toString();
                    String bound = compared.getRightOperand().toString();
                    found |= counted.contains(counter) && !set.contains(counter) && !set.contains(bound);
                }
            }
            Check.isTrue("8: a " + kind + " loop of " + method + " that counts to a bound: " + condition, found);
        }

        private static List<ExpressionTree> parts(ExpressionTree condition) {
            if (condition instanceof ParenthesizedTree inner) {
                return parts(inner.getExpression());
            }
            if (condition instanceof BinaryTree both && both.getKind() == Tree.Kind.CONDITIONAL_AND) {
                List<ExpressionTree> all = new ArrayList<>(parts(both.getLeftOperand()));
                all.addAll(parts(both.getRightOperand()));
                return all;
            }
            return condition == null ? List.of() : List.of(condition);
        }

        /** The variables that every turn of a loop's body counts up; none if a turn may be cut short. */
        private static Set<String> countedIn(StatementTree body) {
            Set<String> counted = new TreeSet<>();
            boolean[] cutShort = {false};
            body.accept(new TreeScanner<Void, Void>() {
                @Override
                public Void visitContinue(ContinueTree tree, Void nothing) {
                    cutShort[0] = true;
                    return null;
                }
            }, null);
            if (body instanceof BlockTree block && !cutShort[0]) {
                for (StatementTree statement : block.getStatements()) {
                    addCounted(statement, counted);
                }
            }
            return counted;
        }

        private static void addCounted(StatementTree statement, Set<String> counted) {
            if (statement instanceof ExpressionStatementTree expression
                && expression.getExpression() instanceof UnaryTree unary
                && unary.getKind() == Tree.Kind.POSTFIX_INCREMENT) {
                counted.add(unary.getExpression().toString());
            }
        }
    }

    /** Gathers the names of what is set otherwise than by counting up. */
    private static final class Assigned extends TreeScanner<Void, Set<String>> {
        @Override
        public Void visitAssignment(AssignmentTree tree, Set<String> names) {
            names.add(tree.getVariable().toString());
            return super.visitAssignment(tree, names);
        }

        @Override
        public Void visitCompoundAssignment(CompoundAssignmentTree tree, Set<String> names) {
            names.add(tree.getVariable().toString());
            return super.visitCompoundAssignment(tree, names);
        }

        @Override
        public Void visitUnary(UnaryTree tree, Set<String> names) {
            if (tree.getKind() == Tree.Kind.POSTFIX_DECREMENT || tree.getKind() == Tree.Kind.PREFIX_DECREMENT) {
                names.add(tree.getExpression().toString());
            }
            return super.visitUnary(tree, names);
        }
    }
}
