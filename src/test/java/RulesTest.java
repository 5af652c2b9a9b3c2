import com.sun.source.tree.*;
import com.sun.source.util.JavacTask;
import com.sun.source.util.SourcePositions;
import com.sun.source.util.TreePathScanner;
import com.sun.source.util.Trees;
import java.io.File;
import java.util.HashMap;
import java.util.HashSet;
import java.util.List;
import java.util.Map;
import java.util.Set;
import java.util.TreeMap;
import java.util.TreeSet;
import javax.lang.model.element.Modifier;
import javax.tools.JavaCompiler;
import javax.tools.StandardJavaFileManager;
import javax.tools.ToolProvider;

/**
 * Reads the source of the class and holds it against the rules of LANGUAGE.md that can be seen in
 * it. In a few places it is stricter than the rules, where that makes the rule easy to see: every
 * loop is a for loop with a counter, and arrays are made in field initialisers alone.
 */
public final class RulesTest {
    private static final String SOURCE = "src/main/java/HeapSuite.java";
    private static final Set<String> NUMBERS = Set.of("int", "long", "short", "byte", "char", "boolean");
    private static final int MOST_PARAMETERS = 7;
    private static final int MOST_LINES = 60;
    private static final int MOST_DEPTH = 6;

    private static int wrong = 0;

    public static void main(String[] args) throws Exception {
        JavaCompiler compiler = ToolProvider.getSystemJavaCompiler();
        try (StandardJavaFileManager files = compiler.getStandardFileManager(null, null, null)) {
            JavacTask task = (JavacTask) compiler.getTask(null, files, null, List.of("-proc:none"), null,
                    files.getJavaFileObjects(new File(SOURCE)));
            CompilationUnitTree unit = task.parse().iterator().next();
            Rules rules = new Rules(unit, Trees.instance(task).getSourcePositions());
            rules.scan(unit, null);
            rules.finish();
        }
        System.out.println(wrong == 0 ? "the rules are kept" : wrong + " breaches of the rules");
        if (wrong != 0) {
            System.exit(1);
        }
    }

    private static final class Rules extends TreePathScanner<Void, Void> {
        private final CompilationUnitTree unit;
        private final SourcePositions positions;
        private final Set<String> constants = new HashSet<>();
        private final Set<String> arrays = new HashSet<>();
        private final Set<String> counters = new HashSet<>();
        private final Map<String, Set<String>> calls = new TreeMap<>();
        private int classes = 0;
        private String method = null;
        private int insideArguments = 0;

        Rules(CompilationUnitTree unit, SourcePositions positions) {
            this.unit = unit;
            this.positions = positions;
        }

        private void need(boolean holds, int rule, Tree at, String what) {
            if (!holds) {
                wrong++;
                long line = unit.getLineMap().getLineNumber(positions.getStartPosition(unit, at));
                System.out.println("rule " + rule + ", line " + line + ": " + what);
            }
        }

        @Override
        public Void visitCompilationUnit(CompilationUnitTree tree, Void none) {
            need(tree.getPackage() == null, 1, tree, "a package line");
            need(tree.getImports().isEmpty(), 3, tree, "an import");
            return super.visitCompilationUnit(tree, none);
        }

        @Override
        public Void visitClass(ClassTree tree, Void none) {
            classes++;
            need(classes == 1, 1, tree, "a second class");
            for (Tree member : tree.getMembers()) {
                need(!(member instanceof BlockTree), 5, member, "an initialiser block");
                if (member instanceof VariableTree) {
                    noteField((VariableTree) member);
                }
                if (member instanceof MethodTree) {
                    need(calls.put(((MethodTree) member).getName().toString(), new TreeSet<>()) == null,
                            1, member, "two methods with one name");
                }
            }
            return super.visitClass(tree, none);
        }

        private void noteField(VariableTree field) {
            String name = field.getName().toString();
            boolean isArray = field.getType() instanceof ArrayTypeTree;
            if (isArray) {
                arrays.add(name);
                need(field.getInitializer() instanceof NewArrayTree, 4, field, "an array not made at the start");
                need(field.getModifiers().getFlags().contains(Modifier.FINAL), 4, field, "an array that may change");
            }
            if (field.getModifiers().getFlags().contains(Modifier.STATIC)) {
                String type = field.getType().toString();
                need(type.equals("int") || type.equals("long"), 5, field, "a static " + type);
                need(field.getModifiers().getFlags().contains(Modifier.FINAL), 5, field, "no constant");
                need(field.getInitializer() != null, 5, field, "no value");
                constants.add(name);
            }
        }

        @Override
        public Void visitMethod(MethodTree tree, Void none) {
            method = tree.getName().toString();
            counters.clear();
            need(tree.getParameters().size() <= MOST_PARAMETERS, 10, tree, "too many parameters");
            need(tree.getThrows().isEmpty(), 6, tree, "a throws clause");
            Tree answer = tree.getReturnType();
            need(!(answer instanceof ArrayTypeTree), 4, tree, "an array is answered");
            need(answer == null || NUMBERS.contains(answer.toString()) || answer.toString().equals("void"),
                    2, tree, "an answer of the type " + answer);
            long from = unit.getLineMap().getLineNumber(positions.getStartPosition(unit, tree));
            long to = unit.getLineMap().getLineNumber(positions.getEndPosition(unit, tree));
            need(to - from < MOST_LINES, 10, tree, "a long method: " + method);
            super.visitMethod(tree, none);
            method = null;
            return null;
        }

        @Override
        public Void visitVariable(VariableTree tree, Void none) {
            Tree type = tree.getType();
            boolean isArray = type instanceof ArrayTypeTree;
            String number = isArray ? ((ArrayTypeTree) type).getType().toString() : type.toString();
            need(NUMBERS.contains(number), 2, tree, "a variable of the type " + type);
            boolean parameter = getCurrentPath().getParentPath().getLeaf() instanceof MethodTree;
            need(!isArray || method == null || parameter, 4, tree, "a local variable that names an array");
            return super.visitVariable(tree, none);
        }

        @Override
        public Void visitNewArray(NewArrayTree tree, Void none) {
            need(method == null, 4, tree, "an array made outside a field's initialiser");
            need(tree.getInitializers() == null && tree.getDimensions().size() == 1, 4, tree, "no single length");
            for (ExpressionTree length : tree.getDimensions()) {
                boolean constant = length instanceof LiteralTree
                        || length instanceof IdentifierTree && constants.contains(length.toString());
                need(constant, 4, tree, "a length that is no literal and no constant: " + length);
            }
            return super.visitNewArray(tree, none);
        }

        @Override
        public Void visitMemberSelect(MemberSelectTree tree, Void none) {
            need(tree.getIdentifier().contentEquals("length"), 3, tree, "something of another class: " + tree);
            return super.visitMemberSelect(tree, none);
        }

        @Override
        public Void visitMethodInvocation(MethodInvocationTree tree, Void none) {
            String name = tree.getMethodSelect().toString();
            need(calls.containsKey(name), 3, tree, "a call of what is not in the class: " + name);
            need(insideArguments == 0, 10, tree, "a call inside the arguments of another one: " + name);
            need(!"<init>".equals(method), 4, tree, "the constructor calls a method");
            if (method != null) {
                calls.get(method).add(name);
            }
            insideArguments++;
            scan(tree.getArguments(), none);
            insideArguments--;
            return null;
        }

        @Override
        public Void visitForLoop(ForLoopTree tree, Void none) {
            boolean counted = tree.getInitializer().size() == 1
                    && tree.getInitializer().get(0) instanceof VariableTree
                    && tree.getUpdate().size() == 1 && tree.getCondition() != null;
            need(counted, 8, tree, "a loop without a counter");
            if (!counted) {
                return super.visitForLoop(tree, none);
            }
            String counter = ((VariableTree) tree.getInitializer().get(0)).getName().toString();
            String update = tree.getUpdate().get(0).getExpression().toString();
            boolean up = update.equals(counter + "++");
            need(up || update.equals(counter + "--"), 8, tree, "a counter that does not count: " + update);
            need(bounded(tree.getCondition(), counter, up), 8, tree, "no bound for " + counter);
            scan(tree.getInitializer(), none);
            scan(tree.getCondition(), none);
            need(counters.add(counter), 8, tree, "two loops in one another with the counter " + counter);
            scan(tree.getStatement(), none);
            counters.remove(counter);
            return null;
        }

        /** Whether one of the conditions joined by && holds the counter against a bound. */
        private boolean bounded(ExpressionTree condition, String counter, boolean up) {
            if (condition instanceof ParenthesizedTree) {
                return bounded(((ParenthesizedTree) condition).getExpression(), counter, up);
            }
            if (!(condition instanceof BinaryTree)) {
                return false;
            }
            BinaryTree binary = (BinaryTree) condition;
            if (binary.getKind() == Tree.Kind.CONDITIONAL_AND) {
                return bounded(binary.getLeftOperand(), counter, up) || bounded(binary.getRightOperand(), counter, up);
            }
            Tree.Kind due = up ? Tree.Kind.LESS_THAN : Tree.Kind.GREATER_THAN_EQUAL;
            return binary.getKind() == due && binary.getLeftOperand().toString().equals(counter);
        }

        @Override
        public Void visitAssignment(AssignmentTree tree, Void none) {
            changes(tree.getVariable(), tree);
            return super.visitAssignment(tree, none);
        }

        @Override
        public Void visitCompoundAssignment(CompoundAssignmentTree tree, Void none) {
            changes(tree.getVariable(), tree);
            need(tree.getKind() != Tree.Kind.DIVIDE_ASSIGNMENT && tree.getKind() != Tree.Kind.REMAINDER_ASSIGNMENT,
                    7, tree, "a division to be looked at");
            return super.visitCompoundAssignment(tree, none);
        }

        @Override
        public Void visitUnary(UnaryTree tree, Void none) {
            Tree.Kind kind = tree.getKind();
            if (kind == Tree.Kind.POSTFIX_INCREMENT || kind == Tree.Kind.POSTFIX_DECREMENT
                    || kind == Tree.Kind.PREFIX_INCREMENT || kind == Tree.Kind.PREFIX_DECREMENT) {
                changes(tree.getExpression(), tree);
            }
            return super.visitUnary(tree, none);
        }

        private void changes(ExpressionTree variable, Tree at) {
            need(!counters.contains(variable.toString()), 8, at, "a loop's counter is changed: " + variable);
            need(!arrays.contains(variable.toString()), 4, at, "an array field is given another array: " + variable);
        }

        @Override
        public Void visitBinary(BinaryTree tree, Void none) {
            if (tree.getKind() == Tree.Kind.DIVIDE || tree.getKind() == Tree.Kind.REMAINDER) {
                ExpressionTree divisor = tree.getRightOperand();
                boolean never0 = constants.contains(divisor.toString())
                        || divisor instanceof LiteralTree && !divisor.toString().equals("0");
                need(never0, 7, tree, "a divisor that is no literal and no constant: " + divisor);
            }
            if (tree.getKind() == Tree.Kind.EQUAL_TO || tree.getKind() == Tree.Kind.NOT_EQUAL_TO) {
                need(!arrays.contains(tree.getLeftOperand().toString())
                        && !arrays.contains(tree.getRightOperand().toString()), 4, tree, "an array is compared");
            }
            return super.visitBinary(tree, none);
        }

        @Override
        public Void visitLiteral(LiteralTree tree, Void none) {
            Tree.Kind kind = tree.getKind();
            need(kind == Tree.Kind.INT_LITERAL || kind == Tree.Kind.LONG_LITERAL || kind == Tree.Kind.CHAR_LITERAL
                    || kind == Tree.Kind.BOOLEAN_LITERAL, 2, tree, "a " + kind);
            return super.visitLiteral(tree, none);
        }

        @Override
        public Void visitWhileLoop(WhileLoopTree tree, Void none) {
            return forbidden(8, tree, "a while loop");
        }

        @Override
        public Void visitDoWhileLoop(DoWhileLoopTree tree, Void none) {
            return forbidden(8, tree, "a do loop");
        }

        @Override
        public Void visitEnhancedForLoop(EnhancedForLoopTree tree, Void none) {
            return forbidden(8, tree, "a loop without a counter");
        }

        @Override
        public Void visitNewClass(NewClassTree tree, Void none) {
            return forbidden(2, tree, "an object");
        }

        @Override
        public Void visitThrow(ThrowTree tree, Void none) {
            return forbidden(6, tree, "throw");
        }

        @Override
        public Void visitTry(TryTree tree, Void none) {
            return forbidden(6, tree, "try");
        }

        @Override
        public Void visitSynchronized(SynchronizedTree tree, Void none) {
            return forbidden(6, tree, "synchronized");
        }

        @Override
        public Void visitAssert(AssertTree tree, Void none) {
            return forbidden(6, tree, "assert");
        }

        @Override
        public Void visitInstanceOf(InstanceOfTree tree, Void none) {
            return forbidden(6, tree, "instanceof");
        }

        @Override
        public Void visitLambdaExpression(LambdaExpressionTree tree, Void none) {
            return forbidden(6, tree, "a lambda");
        }

        @Override
        public Void visitMemberReference(MemberReferenceTree tree, Void none) {
            return forbidden(6, tree, "a method reference");
        }

        private Void forbidden(int rule, Tree tree, String what) {
            need(false, rule, tree, what);
            return null;
        }

        /** What needs all methods to have been read: that none comes back to itself, and the depth. */
        void finish() {
            Map<String, Integer> depths = new HashMap<>();
            for (String name : calls.keySet()) {
                int depth = depthOf(name, new HashSet<>(), depths);
                need(depth <= MOST_DEPTH, 10, unit, "calls go " + depth + " deep from " + name);
            }
        }

        private int depthOf(String name, Set<String> above, Map<String, Integer> depths) {
            if (depths.containsKey(name)) {
                return depths.get(name);
            }
            if (!above.add(name)) {
                need(false, 8, unit, "recursion through " + name);
                return 0;
            }
            int deepest = 0;
            for (String called : calls.getOrDefault(name, Set.of())) {
                deepest = Math.max(deepest, depthOf(called, above, depths));
            }
            above.remove(name);
            depths.put(name, deepest + 1);
            return deepest + 1;
        }
    }
}
