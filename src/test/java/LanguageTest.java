import com.sun.source.tree.ArrayTypeTree;
import com.sun.source.tree.AssertTree;
import com.sun.source.tree.BinaryTree;
import com.sun.source.tree.BlockTree;
import com.sun.source.tree.ClassTree;
import com.sun.source.tree.CompilationUnitTree;
import com.sun.source.tree.CompoundAssignmentTree;
import com.sun.source.tree.DoWhileLoopTree;
import com.sun.source.tree.EnhancedForLoopTree;
import com.sun.source.tree.ExpressionTree;
import com.sun.source.tree.ForLoopTree;
import com.sun.source.tree.InstanceOfTree;
import com.sun.source.tree.LambdaExpressionTree;
import com.sun.source.tree.LiteralTree;
import com.sun.source.tree.MemberReferenceTree;
import com.sun.source.tree.MemberSelectTree;
import com.sun.source.tree.MethodInvocationTree;
import com.sun.source.tree.MethodTree;
import com.sun.source.tree.NewArrayTree;
import com.sun.source.tree.NewClassTree;
import com.sun.source.tree.PrimitiveTypeTree;
import com.sun.source.tree.StatementTree;
import com.sun.source.tree.SynchronizedTree;
import com.sun.source.tree.ThrowTree;
import com.sun.source.tree.Tree;
import com.sun.source.tree.TryTree;
import com.sun.source.tree.TypeCastTree;
import com.sun.source.tree.VariableTree;
import com.sun.source.tree.WhileLoopTree;
import com.sun.source.util.JavacTask;
import com.sun.source.util.SourcePositions;
import com.sun.source.util.TreeScanner;
import com.sun.source.util.Trees;
import java.io.File;
import java.io.IOException;
import java.util.HashSet;
import java.util.Map;
import java.util.Set;
import java.util.TreeMap;
import java.util.TreeSet;
import javax.lang.model.element.Modifier;
import javax.lang.model.type.TypeKind;
import javax.tools.JavaCompiler;
import javax.tools.StandardJavaFileManager;
import javax.tools.ToolProvider;

/** The rules of LANGUAGE.md that the source shows; FaceTest has those that the compiled class shows. */
public final class LanguageTest {
    private static final File SOURCE = new File("src/main/java/CrdtTable.java");
    private static final int MOST_LINES = 60;
    private static final int DEEPEST_CALL = 6;

    private static CompilationUnitTree unit;
    private static SourcePositions positions;
    private static final Set<String> constants = new HashSet<>();
    private static final Set<String> arrays = new HashSet<>();
    private static final Map<String, MethodTree> methods = new TreeMap<>();
    private static final Map<String, Set<String>> calls = new TreeMap<>();

    public static void main(String[] args) throws IOException {
        Due.is("files beside the class", 1, SOURCE.getParentFile().list().length);
        readSource();
        oneClass();
        ClassTree table = (ClassTree) unit.getTypeDecls().get(0);
        members(table);
        new Rules().scan(table, null);
        methodLengths();
        callDepth();
        Due.end();
    }

    private static void readSource() throws IOException {
        JavaCompiler compiler = ToolProvider.getSystemJavaCompiler();
        StandardJavaFileManager files = compiler.getStandardFileManager(null, null, null);
        JavacTask task = (JavacTask) compiler.getTask(null, files, null, null, null, files.getJavaFileObjects(SOURCE));
        unit = task.parse().iterator().next();
        positions = Trees.instance(task).getSourcePositions();
    }

    private static void oneClass() {
        Due.bySentence("rule 1: One class, without a package line");
        Due.is("package line", true, unit.getPackage() == null);
        Due.is("classes", 1, unit.getTypeDecls().size());
        Due.bySentence("rule 3: nothing is imported");
        Due.is("imports", 0, unit.getImports().size());
    }

    private static void members(ClassTree table) {
        for (Tree member : table.getMembers()) {
            if (member instanceof VariableTree field) {
                field(field);
            } else if (member instanceof MethodTree method) {
                Due.bySentence("a method of each name alone, so that calls can be followed by name");
                Due.is("first " + method.getName(), true, methods.put(method.getName().toString(), method) == null);
            } else {
                Due.bySentence("rules 1 and 5: no nested class, no static initialiser");
                Due.is("member" + at(member), true, false);
            }
        }
    }

    private static void field(VariableTree field) {
        String name = field.getName().toString();
        if (field.getModifiers().getFlags().contains(Modifier.STATIC)) {
            Due.bySentence("rule 5: Static fields are compile-time constants");
            Due.is(name, true, field.getModifiers().getFlags().contains(Modifier.FINAL)
                    && isWholeNumber(field.getInitializer()));
            constants.add(name);
        } else if (field.getType() instanceof ArrayTypeTree) {
            Due.bySentence("rule 4: no method assigns to an array field; arrays are made in a field's initialiser");
            Due.is(name, true, field.getModifiers().getFlags().contains(Modifier.FINAL)
                    && field.getInitializer() instanceof NewArrayTree);
            arrays.add(name);
        }
    }

    private static boolean isWholeNumber(ExpressionTree value) {
        return value != null && value.toString().matches("-?[0-9]+L?");
    }

    private static String at(Tree tree) {
        return " in line " + line(positions.getStartPosition(unit, tree));
    }

    private static long line(long position) {
        return unit.getLineMap().getLineNumber(position);
    }

    /** Goes through the whole class, and reports each place that a rule forbids. */
    private static final class Rules extends TreeScanner<Void, Void> {
        private String method = "";
        private boolean insideArguments = false;

        private void forbidden(String rule, Tree tree) {
            Due.bySentence(rule);
            Due.is(tree + at(tree), true, false);
        }

        private void need(String rule, boolean holds, Tree tree) {
            if (!holds) {
                forbidden(rule, tree);
            }
        }

        @Override
        public Void visitMethod(MethodTree tree, Void none) {
            method = tree.getName().toString();
            calls.put(method, new TreeSet<>());
            super.visitMethod(tree, none);
            method = "";
            return null;
        }

        @Override
        public Void visitVariable(VariableTree tree, Void none) {
            boolean array = tree.getType() instanceof ArrayTypeTree;
            Tree inner = array ? ((ArrayTypeTree) tree.getType()).getType() : tree.getType();
            need("rule 2: Types", inner instanceof PrimitiveTypeTree, tree);
            return super.visitVariable(tree, none);
        }

        @Override
        public Void visitPrimitiveType(PrimitiveTypeTree tree, Void none) {
            TypeKind kind = tree.getPrimitiveTypeKind();
            need("rule 2: No float or double", kind != TypeKind.FLOAT && kind != TypeKind.DOUBLE, tree);
            return null;
        }

        @Override
        public Void visitLiteral(LiteralTree tree, Void none) {
            Tree.Kind kind = tree.getKind();
            need("rules 2 and 4: No String, no float or double, no null", kind == Tree.Kind.INT_LITERAL
                    || kind == Tree.Kind.LONG_LITERAL || kind == Tree.Kind.CHAR_LITERAL
                    || kind == Tree.Kind.BOOLEAN_LITERAL, tree);
            return null;
        }

        // Without a dot there is no way to a class of the library or to a method of Object's.
        @Override
        public Void visitMemberSelect(MemberSelectTree tree, Void none) {
            forbidden("rule 3: No class of the Java library", tree);
            return null;
        }

        @Override
        public Void visitMethodInvocation(MethodInvocationTree tree, Void none) {
            String called = tree.getMethodSelect().toString();
            need("rule 3: none of Object's methods is called", methods.containsKey(called), tree);
            need("rule 10: no call stands inside the arguments of another call", !insideArguments, tree);
            calls.getOrDefault(method, new TreeSet<>()).add(called);
            boolean before = insideArguments;
            insideArguments = true;
            scan(tree.getArguments(), none);
            insideArguments = before;
            return null;
        }

        @Override
        public Void visitNewArray(NewArrayTree tree, Void none) {
            need("rule 4: A method makes no object and no array", method.isEmpty(), tree);
            boolean oneLength = tree.getInitializers() == null && tree.getDimensions().size() == 1;
            need("rule 4: a length that is a literal or a constant", oneLength
                    && constants.contains(tree.getDimensions().get(0).toString()), tree);
            return super.visitNewArray(tree, none);
        }

        @Override
        public Void visitNewClass(NewClassTree tree, Void none) {
            forbidden("rule 4: A method makes no object and no array", tree);
            return null;
        }

        @Override
        public Void visitBinary(BinaryTree tree, Void none) {
            need("rule 4: An array is never compared", !arrays.contains(tree.getLeftOperand().toString())
                    && !arrays.contains(tree.getRightOperand().toString()), tree);
            need("rule 7: a divisor is looked at before it divides (here: nothing is divided)",
                    tree.getKind() != Tree.Kind.DIVIDE && tree.getKind() != Tree.Kind.REMAINDER, tree);
            return super.visitBinary(tree, none);
        }

        @Override
        public Void visitCompoundAssignment(CompoundAssignmentTree tree, Void none) {
            need("rule 7: a divisor is looked at before it divides (here: nothing is divided)",
                    tree.getKind() != Tree.Kind.DIVIDE_ASSIGNMENT
                    && tree.getKind() != Tree.Kind.REMAINDER_ASSIGNMENT, tree);
            return super.visitCompoundAssignment(tree, none);
        }

        @Override
        public Void visitForLoop(ForLoopTree tree, Void none) {
            need("rule 8: Every loop has an end that can be seen from its own lines", countsUp(tree), tree);
            return super.visitForLoop(tree, none);
        }

        @Override
        public Void visitWhileLoop(WhileLoopTree tree, Void none) {
            forbidden("rule 8: a counter against a bound (here: by for alone)", tree);
            return null;
        }

        @Override
        public Void visitDoWhileLoop(DoWhileLoopTree tree, Void none) {
            forbidden("rule 8: a counter against a bound (here: by for alone)", tree);
            return null;
        }

        @Override
        public Void visitEnhancedForLoop(EnhancedForLoopTree tree, Void none) {
            forbidden("rule 8: a counter against a bound (here: by for alone)", tree);
            return null;
        }

        @Override
        public Void visitTypeCast(TypeCastTree tree, Void none) {
            need("rule 6: No cast of a reference", tree.getType() instanceof PrimitiveTypeTree, tree);
            return super.visitTypeCast(tree, none);
        }

        @Override
        public Void visitThrow(ThrowTree tree, Void none) {
            forbidden("rule 6: No throw", tree);
            return null;
        }

        @Override
        public Void visitTry(TryTree tree, Void none) {
            forbidden("rule 6: No try", tree);
            return null;
        }

        @Override
        public Void visitSynchronized(SynchronizedTree tree, Void none) {
            forbidden("rule 6: No synchronized", tree);
            return null;
        }

        @Override
        public Void visitAssert(AssertTree tree, Void none) {
            forbidden("rule 6: No assert", tree);
            return null;
        }

        @Override
        public Void visitInstanceOf(InstanceOfTree tree, Void none) {
            forbidden("rule 6: No instanceof", tree);
            return null;
        }

        @Override
        public Void visitLambdaExpression(LambdaExpressionTree tree, Void none) {
            forbidden("rule 6: No lambda", tree);
            return null;
        }

        @Override
        public Void visitMemberReference(MemberReferenceTree tree, Void none) {
            forbidden("rule 6: No method reference", tree);
            return null;
        }
    }

    /** for (int i = 0; i < CONSTANT [&& ...]; i++), with a body that leaves i alone. */
    private static boolean countsUp(ForLoopTree loop) {
        if (loop.getInitializer().size() != 1 || loop.getUpdate().size() != 1
                || !(loop.getInitializer().get(0) instanceof VariableTree counter)) {
            return false;
        }
        String name = counter.getName().toString();
        ExpressionTree bound = loop.getCondition();
        while (bound instanceof BinaryTree both && both.getKind() == Tree.Kind.CONDITIONAL_AND) {
            bound = both.getLeftOperand();
        }
        return bound instanceof BinaryTree less && less.getKind() == Tree.Kind.LESS_THAN
                && less.getLeftOperand().toString().equals(name)
                && constants.contains(less.getRightOperand().toString())
                && loop.getUpdate().get(0).getExpression().toString().equals(name + "++")
                && !isChanged(name, loop.getStatement());
    }

    private static boolean isChanged(String name, StatementTree body) {
        String changed = "(?s).*(\\b" + name + "\\s*([-+*/%&|^]|<<|>>>?)?=[^=].*"
                + "|\\b" + name + "\\s*(\\+\\+|--).*|(\\+\\+|--)\\s*" + name + "\\b.*)";
        return body.toString().matches(changed);
    }

    private static void methodLengths() {
        Due.bySentence("rule 10: Methods stay short (some sixty lines)");
        for (MethodTree method : methods.values()) {
            BlockTree body = method.getBody();
            long lines = line(positions.getEndPosition(unit, body)) - line(positions.getStartPosition(unit, method)) + 1;
            Due.is("lines of " + method.getName() + " are few", true, lines <= MOST_LINES);
        }
    }

    private static void callDepth() {
        Due.bySentence("rules 8 and 10: No recursion; calls go at most six deep");
        for (String method : methods.keySet()) {
            Due.is("depth of " + method + " is small", true, depth(method, DEEPEST_CALL + 1) <= DEEPEST_CALL);
        }
    }

    /** How many methods stand on each other in the deepest call; a recursion has no depth but the limit. */
    private static int depth(String method, int limit) {
        if (limit == 0) {
            return 0;
        }
        int deepest = 0;
        for (String called : calls.getOrDefault(method, Set.of())) {
            deepest = Math.max(deepest, depth(called, limit - 1));
        }
        return deepest + 1;
    }
}
