import com.sun.source.tree.AssignmentTree;
import com.sun.source.tree.BinaryTree;
import com.sun.source.tree.ClassTree;
import com.sun.source.tree.CompilationUnitTree;
import com.sun.source.tree.CompoundAssignmentTree;
import com.sun.source.tree.DoWhileLoopTree;
import com.sun.source.tree.EnhancedForLoopTree;
import com.sun.source.tree.ExpressionTree;
import com.sun.source.tree.ForLoopTree;
import com.sun.source.tree.IdentifierTree;
import com.sun.source.tree.LineMap;
import com.sun.source.tree.MethodInvocationTree;
import com.sun.source.tree.MethodTree;
import com.sun.source.tree.NewArrayTree;
import com.sun.source.tree.NewClassTree;
import com.sun.source.tree.ParenthesizedTree;
import com.sun.source.tree.Tree;
import com.sun.source.tree.UnaryTree;
import com.sun.source.tree.VariableTree;
import com.sun.source.tree.WhileLoopTree;
import com.sun.source.util.JavacTask;
import com.sun.source.util.SourcePositions;
import com.sun.source.util.TreeScanner;
import com.sun.source.util.Trees;
import java.io.IOException;
import java.nio.file.Path;
import java.util.ArrayList;
import java.util.List;
import java.util.Map;
import java.util.Set;
import java.util.TreeMap;
import java.util.TreeSet;
import javax.lang.model.element.Modifier;
import javax.tools.JavaCompiler;
import javax.tools.StandardJavaFileManager;
import javax.tools.ToolProvider;

/** Rules 4, 5, 8 and 10 of LANGUAGE.md, on the class as the compiler reads it. */
public final class SourceTest {
    private static final Path SOURCE = Path.of("src/main/java/OlderFirstHeap.java");
    private static final int MOST_LINES = 60;
    private static final int DEEPEST_CALLS = 6;

    private final CompilationUnitTree unit;
    private final ClassTree type;
    private final SourcePositions positions;
    private final Map<String, MethodTree> methods = new TreeMap<>();
    private final Set<String> fixedNames = new TreeSet<>();

    private SourceTest(CompilationUnitTree unit, SourcePositions positions) {
        this.unit = unit;
        this.positions = positions;
        this.type = (ClassTree) unit.getTypeDecls().get(0);
        for (Tree member : type.getMembers()) {
            if (member instanceof MethodTree method) {
                MethodTree earlier = methods.put(method.getName().toString(), method);
                Check.due("one method alone is called " + method.getName(), earlier == null, true);
            } else if (member instanceof VariableTree field
                    && field.getModifiers().getFlags().contains(Modifier.FINAL)) {
                fixedNames.add(field.getName().toString());
            }
        }
    }

    public static void main(String[] args) throws IOException {
        JavaCompiler compiler = ToolProvider.getSystemJavaCompiler();
        try (StandardJavaFileManager files = compiler.getStandardFileManager(null, null, null)) {
            JavacTask task = (JavacTask) compiler.getTask(
                null, files, null, null, null, files.getJavaFileObjects(SOURCE));
            CompilationUnitTree unit = task.parse().iterator().next();
            SourceTest test = new SourceTest(unit, Trees.instance(task).getSourcePositions());
            Check.test("rule 1: one class", () -> Check.due("types", unit.getTypeDecls().size(), 1));
            Check.test("rule 4: arrays are made in field initialisers alone", test::arraysAreMadeInFields);
            Check.test("rule 5: no initialiser block", test::noInitialiserBlock);
            Check.test("rule 8: no recursion; rule 10: calls go at most six deep", test::callsEndSoon);
            Check.test("rule 8: every loop counts against a bound", test::loopsCountAgainstABound);
            Check.test("rule 10: methods stay short", test::methodsStayShort);
            Check.test("rule 10: no call inside a call's arguments", test::noCallInsideArguments);
        }
        Check.end();
    }

    private void arraysAreMadeInFields() {
        List<Tree> inFields = new ArrayList<>();
        for (Tree member : type.getMembers()) {
            if (member instanceof VariableTree field && field.getInitializer() instanceof NewArrayTree made) {
                inFields.add(made);
                boolean plain = made.getInitializers() == null && made.getDimensions().size() == 1
                    && isConstant(made.getDimensions().get(0));
                Check.due(line(made) + ": one length, a constant", plain, true);
            }
        }
        new TreeScanner<Void, Void>() {
            @Override
            public Void visitNewArray(NewArrayTree made, Void unused) {
                Check.due(line(made) + ": made in a field", inFields.contains(made), true);
                return super.visitNewArray(made, unused);
            }

            @Override
            public Void visitNewClass(NewClassTree made, Void unused) {
                Check.report(line(made) + ": makes an object");
                return super.visitNewClass(made, unused);
            }
        }.scan(type, null);
    }

    private void noInitialiserBlock() {
        for (Tree member : type.getMembers()) {
            Check.due(line(member) + ": a block", member.getKind() == Tree.Kind.BLOCK, false);
        }
    }

    private void callsEndSoon() {
        for (String name : methods.keySet()) {
            deepest(name, new ArrayList<>());
        }
    }

    private void deepest(String name, List<String> callers) {
        List<String> chain = new ArrayList<>(callers);
        chain.add(name);
        if (callers.contains(name)) {
            Check.report("recursion: " + chain);
            return;
        }
        Check.due("depth of " + chain + " is at most six", chain.size() <= DEEPEST_CALLS, true);
        for (String called : calledBy(methods.get(name))) {
            if (methods.containsKey(called)) {
                deepest(called, chain);
            } else {
                Check.report("rule 3: " + name + " calls " + called + ", which is none of the class's own");
            }
        }
    }

    private static Set<String> calledBy(MethodTree method) {
        Set<String> called = new TreeSet<>();
        new TreeScanner<Void, Void>() {
            @Override
            public Void visitMethodInvocation(MethodInvocationTree call, Void unused) {
                called.add(call.getMethodSelect().toString());
                return super.visitMethodInvocation(call, unused);
            }
        }.scan(method, null);
        return called;
    }

    // All the class's loops are for loops, so the other kinds are reported without a look at how they end.
    private void loopsCountAgainstABound() {
        new TreeScanner<Void, Void>() {
            @Override
            public Void visitForLoop(ForLoopTree loop, Void unused) {
                Check.due(line(loop) + ": counts against a bound", countsAgainstABound(loop), true);
                return super.visitForLoop(loop, unused);
            }

            @Override
            public Void visitWhileLoop(WhileLoopTree loop, Void unused) {
                Check.report(line(loop) + ": a while loop");
                return super.visitWhileLoop(loop, unused);
            }

            @Override
            public Void visitDoWhileLoop(DoWhileLoopTree loop, Void unused) {
                Check.report(line(loop) + ": a do loop");
                return super.visitDoWhileLoop(loop, unused);
            }

            @Override
            public Void visitEnhancedForLoop(EnhancedForLoopTree loop, Void unused) {
                Check.report(line(loop) + ": a for-each loop");
                return super.visitEnhancedForLoop(loop, unused);
            }
        }.scan(type, null);
    }

    private boolean countsAgainstABound(ForLoopTree loop) {
        if (loop.getInitializer().size() != 1 || loop.getUpdate().size() != 1
                || !(loop.getInitializer().get(0) instanceof VariableTree counter)) {
            return false;
        }
        String name = counter.getName().toString();
        boolean countsUp = loop.getUpdate().get(0).toString().equals(name + "++;");
        return countsUp && !changes(loop.getStatement(), name) && isBounded(loop.getCondition(), name, loop);
    }

    // Of conditions joined by &&, one that ends the loop is enough.
    private boolean isBounded(ExpressionTree condition, String counter, ForLoopTree loop) {
        ExpressionTree bare = condition;
        while (bare instanceof ParenthesizedTree inner) {
            bare = inner.getExpression();
        }
        if (!(bare instanceof BinaryTree both)) {
            return false;
        }
        if (both.getKind() == Tree.Kind.CONDITIONAL_AND) {
            return isBounded(both.getLeftOperand(), counter, loop) || isBounded(both.getRightOperand(), counter, loop);
        }
        return both.getKind() == Tree.Kind.LESS_THAN && both.getLeftOperand().toString().equals(counter)
            && staysTheSame(both.getRightOperand(), loop.getStatement());
    }

    // A method called in the loop might change a field, so only a final one is a bound there.
    private boolean staysTheSame(ExpressionTree bound, Tree body) {
        if (isConstant(bound)) {
            return true;
        }
        if (!(bound instanceof IdentifierTree named)) {
            return false;
        }
        String name = named.getName().toString();
        return fixedNames.contains(name) || !changes(body, name) && !calls(body);
    }

    private static boolean changes(Tree body, String name) {
        boolean[] found = {false};
        new TreeScanner<Void, Void>() {
            @Override
            public Void visitAssignment(AssignmentTree change, Void unused) {
                found[0] |= change.getVariable().toString().equals(name);
                return super.visitAssignment(change, unused);
            }

            @Override
            public Void visitCompoundAssignment(CompoundAssignmentTree change, Void unused) {
                found[0] |= change.getVariable().toString().equals(name);
                return super.visitCompoundAssignment(change, unused);
            }

            @Override
            public Void visitUnary(UnaryTree change, Void unused) {
                found[0] |= change.getExpression().toString().equals(name);
                return super.visitUnary(change, unused);
            }
        }.scan(body, null);
        return found[0];
    }

    private static boolean calls(Tree body) {
        boolean[] found = {false};
        new TreeScanner<Void, Void>() {
            @Override
            public Void visitMethodInvocation(MethodInvocationTree call, Void unused) {
                found[0] = true;
                return null;
            }
        }.scan(body, null);
        return found[0];
    }

    private void methodsStayShort() {
        LineMap lines = unit.getLineMap();
        for (Map.Entry<String, MethodTree> method : methods.entrySet()) {
            long first = lines.getLineNumber(positions.getStartPosition(unit, method.getValue()));
            long last = lines.getLineNumber(positions.getEndPosition(unit, method.getValue()));
            Check.due(method.getKey() + " has " + (last - first + 1) + " lines, at most sixty",
                last - first < MOST_LINES, true);
        }
    }

    private void noCallInsideArguments() {
        new TreeScanner<Void, Void>() {
            @Override
            public Void visitMethodInvocation(MethodInvocationTree call, Void unused) {
                for (ExpressionTree argument : call.getArguments()) {
                    Check.due(line(call) + ": a call in the arguments of " + call, calls(argument), false);
                }
                return super.visitMethodInvocation(call, unused);
            }
        }.scan(type, null);
    }

    private static boolean isConstant(ExpressionTree value) {
        return value.getKind() == Tree.Kind.INT_LITERAL || value.toString().matches("[A-Z][A-Z_]*");
    }

    private String line(Tree tree) {
        return "line " + unit.getLineMap().getLineNumber(positions.getStartPosition(unit, tree));
    }
}
