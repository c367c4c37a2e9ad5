import com.sun.source.tree.ArrayAccessTree;
import com.sun.source.tree.AssignmentTree;
import com.sun.source.tree.BinaryTree;
import com.sun.source.tree.BlockTree;
import com.sun.source.tree.ClassTree;
import com.sun.source.tree.CompilationUnitTree;
import com.sun.source.tree.CompoundAssignmentTree;
import com.sun.source.tree.ExpressionStatementTree;
import com.sun.source.tree.ExpressionTree;
import com.sun.source.tree.ForLoopTree;
import com.sun.source.tree.IdentifierTree;
import com.sun.source.tree.MethodInvocationTree;
import com.sun.source.tree.MethodTree;
import com.sun.source.tree.NewArrayTree;
import com.sun.source.tree.PrimitiveTypeTree;
import com.sun.source.tree.StatementTree;
import com.sun.source.tree.Tree;
import com.sun.source.tree.UnaryTree;
import com.sun.source.tree.VariableTree;
import com.sun.source.util.JavacTask;
import com.sun.source.util.TreePath;
import com.sun.source.util.TreePathScanner;
import com.sun.source.util.TreeScanner;
import com.sun.source.util.Trees;
import java.io.File;
import java.io.IOException;
import java.util.EnumSet;
import java.util.HashMap;
import java.util.HashSet;
import java.util.List;
import java.util.Map;
import java.util.Set;
import java.util.TreeSet;
import javax.lang.model.element.Modifier;
import javax.lang.model.type.TypeKind;
import javax.tools.JavaCompiler;
import javax.tools.StandardJavaFileManager;
import javax.tools.ToolProvider;

// The class keeps to the rules of LANGUAGE.md, as far as its source shows it. Where a rule leaves
// more than the class needs, the test leaves just what the class needs: whoever needs more of the
// rule widens the test. Rule 1's face is in FaceTest; rule 7's indexes are in the tests of answers.
public final class LanguageTest {
    private static final String SOURCE = "src/main/java/MatroidDesk.java";

    // All that the class is made of so far. What is not here is refused: much of it breaks a rule
    // (throw, try, lambdas, null, texts), and the rest needs a look first (divisions, while loops).
    private static final Set<Tree.Kind> ALLOWED = EnumSet.of(
        Tree.Kind.COMPILATION_UNIT, Tree.Kind.CLASS, Tree.Kind.METHOD, Tree.Kind.VARIABLE,
        Tree.Kind.MODIFIERS, Tree.Kind.PRIMITIVE_TYPE, Tree.Kind.ARRAY_TYPE, Tree.Kind.BLOCK,
        Tree.Kind.FOR_LOOP, Tree.Kind.IF, Tree.Kind.RETURN, Tree.Kind.EXPRESSION_STATEMENT,
        Tree.Kind.IDENTIFIER, Tree.Kind.INT_LITERAL, Tree.Kind.BOOLEAN_LITERAL,
        Tree.Kind.PARENTHESIZED, Tree.Kind.METHOD_INVOCATION, Tree.Kind.NEW_ARRAY,
        Tree.Kind.ARRAY_ACCESS, Tree.Kind.ASSIGNMENT, Tree.Kind.CONDITIONAL_EXPRESSION,
        Tree.Kind.PLUS, Tree.Kind.MINUS, Tree.Kind.MULTIPLY, Tree.Kind.UNARY_MINUS,
        Tree.Kind.PLUS_ASSIGNMENT, Tree.Kind.MULTIPLY_ASSIGNMENT, Tree.Kind.OR_ASSIGNMENT,
        Tree.Kind.XOR_ASSIGNMENT, Tree.Kind.POSTFIX_INCREMENT, Tree.Kind.LEFT_SHIFT,
        Tree.Kind.RIGHT_SHIFT, Tree.Kind.AND, Tree.Kind.OR, Tree.Kind.XOR,
        Tree.Kind.CONDITIONAL_AND, Tree.Kind.LOGICAL_COMPLEMENT, Tree.Kind.EQUAL_TO,
        Tree.Kind.NOT_EQUAL_TO, Tree.Kind.LESS_THAN, Tree.Kind.GREATER_THAN);

    private static final Set<TypeKind> NUMBERS = EnumSet.of(TypeKind.INT, TypeKind.LONG,
        TypeKind.SHORT, TypeKind.BYTE, TypeKind.CHAR, TypeKind.BOOLEAN, TypeKind.VOID);

    private static final Set<Modifier> METHOD_FLAGS =
        EnumSet.of(Modifier.PUBLIC, Modifier.PRIVATE, Modifier.STATIC);

    private static int wrong = 0;

    private final CompilationUnitTree unit;
    private final Trees trees;
    private final Set<String> publicMethods = new TreeSet<>();
    private final Set<String> privateMethods = new TreeSet<>();
    private final Set<String> constants = new TreeSet<>();
    private final Set<String> arrayFields = new TreeSet<>();
    private final Map<String, Set<String>> callsOf = new HashMap<>();

    private LanguageTest(CompilationUnitTree unit, Trees trees) {
        this.unit = unit;
        this.trees = trees;
    }

    private void rule(int number, boolean kept, String what, Tree where) {
        if (!kept) {
            wrong++;
            System.out.println(SOURCE + ":" + line(where) + ": rule " + number + ": " + what);
        }
    }

    private long line(Tree tree) {
        return unit.getLineMap().getLineNumber(start(tree));
    }

    private long start(Tree tree) {
        return Math.max(0, trees.getSourcePositions().getStartPosition(unit, tree));
    }

    private long end(Tree tree) {
        return Math.max(0, trees.getSourcePositions().getEndPosition(unit, tree));
    }

    private void check() {
        rule(1, unit.getPackage() == null, "a package line", unit);
        rule(3, unit.getImports().isEmpty(), "an import", unit);
        rule(1, unit.getTypeDecls().size() == 1, "not one class", unit);
        ClassTree top = (ClassTree) unit.getTypeDecls().get(0);
        rule(1, top.getExtendsClause() == null && top.getImplementsClause().isEmpty(),
            "another class or interface behind it", top);
        for (Tree member : top.getMembers()) {
            note(member);
        }
        for (Tree member : top.getMembers()) {
            checkMember(member);
        }
        for (String name : privateMethods) {
            rule(1, !publicMethods.contains(name), "public and private " + name, top);
        }
        rule(10, arrayFields.size() <= 40, "more than forty fields", top);
        checkCallDepth(top);
        new Parts().scan(unit, null);
    }

    private void note(Tree member) {
        if (member instanceof VariableTree field) {
            boolean constant = field.getModifiers().getFlags().contains(Modifier.STATIC);
            String name = field.getName().toString();
            (constant ? constants : arrayFields).add(name);
        } else if (member instanceof MethodTree method) {
            boolean isPublic = method.getModifiers().getFlags().contains(Modifier.PUBLIC);
            (isPublic ? publicMethods : privateMethods).add(method.getName().toString());
        }
    }

    private void checkMember(Tree member) {
        if (member instanceof VariableTree field) {
            checkField(field);
        } else if (member instanceof MethodTree method) {
            checkMethod(method);
        } else {
            rule(member instanceof BlockTree ? 5 : 1, false, "neither a field nor a method", member);
        }
    }

    private void checkField(VariableTree field) {
        Set<Modifier> flags = field.getModifiers().getFlags();
        rule(1, flags.contains(Modifier.PRIVATE), "a field that is not private", field);
        rule(4, flags.contains(Modifier.FINAL), "a field that is not final", field);
        if (flags.contains(Modifier.STATIC)) {
            boolean number = field.getType().toString().matches("int|long");
            rule(5, number, "a static field that is neither int nor long", field);
            rule(5, isConstant(field.getInitializer()), "no compile-time constant", field);
        } else {
            boolean array = field.getType().getKind() == Tree.Kind.ARRAY_TYPE;
            rule(4, array, "a field that is neither a constant nor an array", field);
            rule(4, field.getInitializer() instanceof NewArrayTree, "an array not made here", field);
        }
    }

    private boolean isConstant(ExpressionTree value) {
        if (value instanceof BinaryTree two) {
            return isConstant(two.getLeftOperand()) && isConstant(two.getRightOperand());
        }
        if (value instanceof UnaryTree one) {
            return isConstant(one.getExpression());
        }
        return value != null && (value.getKind() == Tree.Kind.INT_LITERAL
            || value instanceof IdentifierTree && constants.contains(value.toString()));
    }

    private void checkMethod(MethodTree method) {
        String name = method.getName().toString();
        rule(10, method.getParameters().size() <= 7, "more than seven parameters", method);
        long lines = unit.getLineMap().getLineNumber(end(method)) - line(method) + 1;
        rule(10, lines <= 60, "a method of " + lines + " lines", method);
        rule(6, method.getThrows().isEmpty(), "throws", method);
        boolean plain = METHOD_FLAGS.containsAll(method.getModifiers().getFlags());
        rule(6, plain, "a method that is " + method.getModifiers().getFlags(), method);
        if (method.getReturnType() != null) {
            boolean number = method.getReturnType() instanceof PrimitiveTypeTree;
            rule(4, number, "a method that answers no number", method);
        }
        Set<String> calls = callsOf.computeIfAbsent(name, n -> new HashSet<>());
        new TreeScanner<Void, Void>() {
            @Override
            public Void visitMethodInvocation(MethodInvocationTree call, Void none) {
                calls.add(call.getMethodSelect().toString());
                return super.visitMethodInvocation(call, none);
            }
        }.scan(method.getBody(), null);
    }

    // The depth grows without end where methods call each other in a ring.
    private void checkCallDepth(Tree top) {
        Set<String> level = new TreeSet<>(callsOf.keySet());
        int depth = 0;
        while (!level.isEmpty() && depth <= callsOf.size()) {
            Set<String> next = new TreeSet<>();
            for (String name : level) {
                next.addAll(callsOf.getOrDefault(name, Set.of()));
            }
            level = next;
            depth++;
        }
        rule(8, depth <= callsOf.size(), "recursion: " + level, top);
        rule(10, depth <= 6, "calls " + depth + " deep", top);
    }

    private final class Parts extends TreePathScanner<Void, Void> {
        @Override
        public Void scan(Tree tree, Void none) {
            if (tree != null) {
                rule(9, ALLOWED.contains(tree.getKind()), "new to the class: " + tree.getKind(), tree);
            }
            return super.scan(tree, none);
        }

        @Override
        public Void visitPrimitiveType(PrimitiveTypeTree type, Void none) {
            rule(2, NUMBERS.contains(type.getPrimitiveTypeKind()), "the type " + type, type);
            return super.visitPrimitiveType(type, none);
        }

        @Override
        public Void visitVariable(VariableTree variable, Void none) {
            boolean field = parent() instanceof ClassTree;
            Tree type = variable.getType();
            boolean number = type instanceof PrimitiveTypeTree;
            rule(2, number || field && type.toString().matches("\\w+\\[\\]"), "the type " + type, variable);
            return super.visitVariable(variable, none);
        }

        // An array that only ever stands before an index is not answered, compared, assigned or
        // given another name.
        @Override
        public Void visitIdentifier(IdentifierTree name, Void none) {
            if (arrayFields.contains(name.toString())) {
                boolean before = parent() instanceof ArrayAccessTree access && access.getExpression() == name;
                rule(4, before, "an array without an index", name);
            }
            return super.visitIdentifier(name, none);
        }

        @Override
        public Void visitNewArray(NewArrayTree array, Void none) {
            TreePath above = getCurrentPath().getParentPath();
            boolean inField = above.getParentPath().getLeaf() instanceof ClassTree;
            rule(4, inField, "an array made outside a field's initialiser", array);
            List<? extends ExpressionTree> lengths = array.getDimensions();
            boolean plain = array.getInitializers() == null && lengths.size() == 1;
            rule(4, plain && isConstant(lengths.get(0)), "an array of no constant length", array);
            return super.visitNewArray(array, none);
        }

        @Override
        public Void visitMethodInvocation(MethodInvocationTree call, Void none) {
            String name = call.getMethodSelect().toString();
            rule(3, callsOf.containsKey(name), "a call of " + name, call);
            for (TreePath p = getCurrentPath().getParentPath(); p != null; p = p.getParentPath()) {
                boolean inside = p.getLeaf() instanceof MethodInvocationTree;
                rule(10, !inside, "a call inside the arguments of a call", call);
            }
            return super.visitMethodInvocation(call, none);
        }

        @Override
        public Void visitForLoop(ForLoopTree loop, Void none) {
            rule(8, counts(loop), "a loop whose end can't be seen", loop);
            return super.visitForLoop(loop, none);
        }

        private Tree parent() {
            return getCurrentPath().getParentPath().getLeaf();
        }
    }

    // for (int i = 0; i < BOUND; i++), where neither i nor the bound changes inside.
    private static boolean counts(ForLoopTree loop) {
        List<? extends StatementTree> first = loop.getInitializer();
        List<? extends ExpressionStatementTree> step = loop.getUpdate();
        if (first.size() != 1 || step.size() != 1 || !(loop.getCondition() instanceof BinaryTree test)
                || !(first.get(0) instanceof VariableTree counter)) {
            return false;
        }
        String name = counter.getName().toString();
        boolean upwards = step.get(0).getExpression().toString().equals(name + "++");
        boolean bounded = test.getKind() == Tree.Kind.LESS_THAN
            && test.getLeftOperand().toString().equals(name)
            && test.getRightOperand() instanceof IdentifierTree;
        Set<String> changed = changedIn(loop.getStatement());
        return upwards && bounded && !changed.contains(name)
            && !changed.contains(test.getRightOperand().toString());
    }

    private static Set<String> changedIn(StatementTree body) {
        Set<String> changed = new HashSet<>();
        new TreeScanner<Void, Void>() {
            @Override
            public Void visitAssignment(AssignmentTree tree, Void none) {
                changed.add(tree.getVariable().toString());
                return super.visitAssignment(tree, none);
            }

            @Override
            public Void visitCompoundAssignment(CompoundAssignmentTree tree, Void none) {
                changed.add(tree.getVariable().toString());
                return super.visitCompoundAssignment(tree, none);
            }

            @Override
            public Void visitUnary(UnaryTree tree, Void none) {
                if (tree.getKind() == Tree.Kind.POSTFIX_INCREMENT) {
                    changed.add(tree.getExpression().toString());
                }
                return super.visitUnary(tree, none);
            }
        }.scan(body, null);
        return changed;
    }

    public static void main(String[] args) throws IOException {
        JavaCompiler compiler = ToolProvider.getSystemJavaCompiler();
        try (StandardJavaFileManager files = compiler.getStandardFileManager(null, null, null)) {
            JavacTask task = (JavacTask) compiler.getTask(null, files, null,
                List.of("--release", "17", "-proc:none"), null, files.getJavaFileObjects(new File(SOURCE)));
            CompilationUnitTree unit = task.parse().iterator().next();
            new LanguageTest(unit, Trees.instance(task)).check();
        }
        System.out.println(wrong == 0 ? "the language is as due" : wrong + " rules are not kept");
        if (wrong != 0) {
            System.exit(1);
        }
    }
}
