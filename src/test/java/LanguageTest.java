import com.sun.source.tree.AssertTree;
import com.sun.source.tree.ClassTree;
import com.sun.source.tree.CompilationUnitTree;
import com.sun.source.tree.DoWhileLoopTree;
import com.sun.source.tree.EnhancedForLoopTree;
import com.sun.source.tree.ExpressionTree;
import com.sun.source.tree.ForLoopTree;
import com.sun.source.tree.IdentifierTree;
import com.sun.source.tree.InstanceOfTree;
import com.sun.source.tree.LambdaExpressionTree;
import com.sun.source.tree.LiteralTree;
import com.sun.source.tree.MemberReferenceTree;
import com.sun.source.tree.MemberSelectTree;
import com.sun.source.tree.MethodInvocationTree;
import com.sun.source.tree.MethodTree;
import com.sun.source.tree.NewArrayTree;
import com.sun.source.tree.NewClassTree;
import com.sun.source.tree.SynchronizedTree;
import com.sun.source.tree.ThrowTree;
import com.sun.source.tree.Tree;
import com.sun.source.tree.TryTree;
import com.sun.source.tree.TypeCastTree;
import com.sun.source.tree.VariableTree;
import com.sun.source.tree.WhileLoopTree;
import com.sun.source.util.JavacTask;
import com.sun.source.util.TreeScanner;
import com.sun.source.util.Trees;
import java.io.File;
import java.io.IOException;
import java.util.HashSet;
import java.util.List;
import java.util.Map;
import java.util.Set;
import java.util.TreeMap;
import java.util.TreeSet;
import javax.lang.model.element.Modifier;
import javax.tools.JavaCompiler;
import javax.tools.StandardJavaFileManager;
import javax.tools.ToolProvider;

/**
 * The source of RgaText against the rules of LANGUAGE.md that can be read off it. In places it asks
 * for more than the rules do, where that is simpler to see: every loop is a for with a condition and
 * a step, and every array is made in a final field's initialiser.
 */
public final class LanguageTest {
    private static final File SOURCE = new File("src/main/java/RgaText.java");
    private static final Set<String> PRIMITIVES = Set.of("int", "long", "short", "byte", "char", "boolean");
    private static final int PARAMETERS = 7;
    private static final int LINES = 60;
    private static final int DEPTH = 6;
    private static final int FIELDS = 40;

    private static int wrong = 0;

    public static void main(String[] args) throws IOException {
        JavaCompiler compiler = ToolProvider.getSystemJavaCompiler();
        StandardJavaFileManager files = compiler.getStandardFileManager(null, null, null);
        JavacTask task = (JavacTask) compiler.getTask(null, files, null, null, null, files.getJavaFileObjects(SOURCE));
        Trees trees = Trees.instance(task);
        for (CompilationUnitTree unit : task.parse()) {
            checkUnit(unit);
            Rules rules = new Rules(unit, trees);
            rules.scan(unit, null);
            checkCalled(rules.calls);
            checkDepth(rules.calls);
        }
        System.out.println(wrong == 0 ? "the source keeps to the rules" : wrong + " faults in the source");
        if (wrong != 0) {
            System.exit(1);
        }
    }

    private static void checkUnit(CompilationUnitTree unit) {
        check(unit.getPackageName() == null, "1: a package line");
        check(unit.getImports().isEmpty(), "3: an import");
        check(unit.getTypeDecls().size() == 1, "1: more than one class");
        int fields = 0;
        for (Tree member : ((ClassTree) unit.getTypeDecls().get(0)).getMembers()) {
            check(member instanceof VariableTree || member instanceof MethodTree, "1 or 5: a member " + member);
            if (member instanceof VariableTree) {
                fields += checkField((VariableTree) member);
            }
        }
        check(fields <= FIELDS, "10: " + fields + " fields");
    }

    /** How many fields beside the constants this one is: 0 or 1. */
    private static int checkField(VariableTree field) {
        Set<Modifier> flags = field.getModifiers().getFlags();
        if (flags.contains(Modifier.STATIC)) {
            boolean constant = flags.contains(Modifier.FINAL) && field.getInitializer() instanceof ExpressionTree;
            check(constant && Set.of("int", "long").contains(field.getType().toString()), "5: " + field);
            return 0;
        }
        check(flags.contains(Modifier.PRIVATE), "1: " + field);
        if (field.getType().getKind() == Tree.Kind.ARRAY_TYPE) {
            check(flags.contains(Modifier.FINAL) && field.getInitializer() instanceof NewArrayTree, "4: " + field);
        }
        return 1;
    }

    private static void checkCalled(Map<String, Set<String>> calls) {
        for (Set<String> called : calls.values()) {
            for (String name : called) {
                check(calls.containsKey(name), "3: a call of " + name + ", which isn't the class's own");
            }
        }
    }

    /** Takes away the methods that call none of those left, six times: none may be left then. */
    private static void checkDepth(Map<String, Set<String>> calls) {
        Set<String> left = new TreeSet<>(calls.keySet());
        for (int depth = 0; depth < DEPTH; depth++) {
            Set<String> callers = new TreeSet<>();
            for (String method : left) {
                Set<String> called = new HashSet<>(calls.get(method));
                called.retainAll(left);
                if (!called.isEmpty()) {
                    callers.add(method);
                }
            }
            left = callers;
        }
        check(left.isEmpty(), "8 or 10: recursion, or calls more than six deep, from " + left);
    }

    private static void check(boolean good, String fault) {
        if (!good) {
            wrong++;
            System.out.println("rule " + fault);
        }
    }

    private static final class Rules extends TreeScanner<Void, Void> {
        final CompilationUnitTree unit;
        final Trees trees;
        final Map<String, Set<String>> calls = new TreeMap<>();
        String method = "";
        boolean insideArguments = false;

        Rules(CompilationUnitTree unit, Trees trees) {
            this.unit = unit;
            this.trees = trees;
        }

        private void never(int rule, Tree tree) {
            check(false, rule + ": line " + line(tree) + ": " + tree);
        }

        private long line(Tree tree) {
            return unit.getLineMap().getLineNumber(trees.getSourcePositions().getStartPosition(unit, tree));
        }

        private long lastLine(Tree tree) {
            return unit.getLineMap().getLineNumber(trees.getSourcePositions().getEndPosition(unit, tree));
        }

        @Override
        public Void visitMethod(MethodTree tree, Void none) {
            method = tree.getName().toString();
            check(calls.put(method, new TreeSet<>()) == null, "1: two methods with the name " + method);
            check(tree.getParameters().size() <= PARAMETERS, "10: parameters of " + method);
            check(tree.getThrows().isEmpty(), "6: throws of " + method);
            check(lastLine(tree) - line(tree) < LINES, "10: " + method + " is long");
            if (tree.getReturnType() != null && !tree.getReturnType().toString().equals("void")) {
                check(PRIMITIVES.contains(tree.getReturnType().toString()), "2 or 4: the answer of " + method);
            }
            super.visitMethod(tree, none);
            method = "";
            return null;
        }

        @Override
        public Void visitVariable(VariableTree tree, Void none) {
            String type = String.valueOf(tree.getType());
            String base = type.endsWith("[]") ? type.substring(0, type.length() - 2) : type;
            if (!PRIMITIVES.contains(base)) {
                never(2, tree);
            }
            return super.visitVariable(tree, none);
        }

        @Override
        public Void visitMethodInvocation(MethodInvocationTree tree, Void none) {
            if (insideArguments) {
                never(10, tree);
            }
            if (!(tree.getMethodSelect() instanceof IdentifierTree)) {
                never(3, tree);
            }
            String called = tree.getMethodSelect().toString();
            calls.get(method).add(called);
            insideArguments = true;
            scan(tree.getArguments(), none);
            insideArguments = false;
            return null;
        }

        @Override
        public Void visitMemberSelect(MemberSelectTree tree, Void none) {
            never(3, tree);
            return null;
        }

        @Override
        public Void visitLiteral(LiteralTree tree, Void none) {
            Object value = tree.getValue();
            boolean good = value instanceof Integer || value instanceof Long || value instanceof Character || value instanceof Boolean;
            if (!good) {
                never(2, tree);
            }
            return null;
        }

        @Override
        public Void visitNewArray(NewArrayTree tree, Void none) {
            List<? extends ExpressionTree> lengths = tree.getDimensions();
            if (!method.isEmpty() || tree.getInitializers() != null || lengths.size() != 1) {
                never(4, tree);
            } else if (!(lengths.get(0) instanceof LiteralTree || lengths.get(0) instanceof IdentifierTree)) {
                never(4, tree);
            }
            return super.visitNewArray(tree, none);
        }

        @Override
        public Void visitForLoop(ForLoopTree tree, Void none) {
            if (tree.getCondition() == null || tree.getUpdate().size() != 1) {
                never(8, tree);
            }
            return super.visitForLoop(tree, none);
        }

        @Override
        public Void visitTypeCast(TypeCastTree tree, Void none) {
            if (!PRIMITIVES.contains(tree.getType().toString())) {
                never(6, tree);
            }
            return super.visitTypeCast(tree, none);
        }

        @Override
        public Void visitWhileLoop(WhileLoopTree tree, Void none) {
            never(8, tree);
            return null;
        }

        @Override
        public Void visitDoWhileLoop(DoWhileLoopTree tree, Void none) {
            never(8, tree);
            return null;
        }

        @Override
        public Void visitEnhancedForLoop(EnhancedForLoopTree tree, Void none) {
            never(8, tree);
            return null;
        }

        @Override
        public Void visitNewClass(NewClassTree tree, Void none) {
            never(4, tree);
            return null;
        }

        @Override
        public Void visitThrow(ThrowTree tree, Void none) {
            never(6, tree);
            return null;
        }

        @Override
        public Void visitTry(TryTree tree, Void none) {
            never(6, tree);
            return null;
        }

        @Override
        public Void visitSynchronized(SynchronizedTree tree, Void none) {
            never(6, tree);
            return null;
        }

        @Override
        public Void visitAssert(AssertTree tree, Void none) {
            never(6, tree);
            return null;
        }

        @Override
        public Void visitInstanceOf(InstanceOfTree tree, Void none) {
            never(6, tree);
            return null;
        }

        @Override
        public Void visitLambdaExpression(LambdaExpressionTree tree, Void none) {
            never(6, tree);
            return null;
        }

        @Override
        public Void visitMemberReference(MemberReferenceTree tree, Void none) {
            never(6, tree);
            return null;
        }
    }
}
