import com.sun.source.tree.ArrayAccessTree;
import com.sun.source.tree.AssignmentTree;
import com.sun.source.tree.BinaryTree;
import com.sun.source.tree.ClassTree;
import com.sun.source.tree.CompilationUnitTree;
import com.sun.source.tree.CompoundAssignmentTree;
import com.sun.source.tree.ForLoopTree;
import com.sun.source.tree.MethodInvocationTree;
import com.sun.source.tree.MethodTree;
import com.sun.source.tree.NewArrayTree;
import com.sun.source.tree.Tree;
import com.sun.source.tree.Tree.Kind;
import com.sun.source.tree.TypeCastTree;
import com.sun.source.tree.UnaryTree;
import com.sun.source.tree.VariableTree;
import com.sun.source.util.JavacTask;
import com.sun.source.util.SourcePositions;
import com.sun.source.util.TreeScanner;
import com.sun.source.util.Trees;
import java.io.IOException;
import java.nio.file.Path;
import java.util.ArrayList;
import java.util.EnumSet;
import java.util.HashMap;
import java.util.HashSet;
import java.util.List;
import java.util.Map;
import java.util.Set;
import java.util.function.Consumer;
import javax.lang.model.element.Modifier;
import javax.tools.JavaCompiler;
import javax.tools.StandardJavaFileManager;
import javax.tools.ToolProvider;

/**
 * The rules of LANGUAGE.md that the source shows. Where a rule is hard to see, the class is held
 * to something narrower that the test can see: each loop is a for with a counter, each array is a
 * final field that is only ever used with an index.
 */
public final class LanguageTest extends Checks {
    private static final Path SOURCE = Path.of("src/main/java/RegexCaptures.java");
    private static final String NUMBER = "(int|long|short|byte|char|boolean)";
    private static final int MOST_LINES = 60;
    private static final int DEEPEST = 6;

    /** What the rules leave of Java, beside operators. */
    private static final Set<Kind> LEFT = EnumSet.of(
        Kind.CLASS, Kind.METHOD, Kind.VARIABLE, Kind.MODIFIERS, Kind.PRIMITIVE_TYPE, Kind.ARRAY_TYPE,
        Kind.BLOCK, Kind.EXPRESSION_STATEMENT, Kind.EMPTY_STATEMENT, Kind.LABELED_STATEMENT, Kind.IF,
        Kind.FOR_LOOP, Kind.SWITCH, Kind.CASE, Kind.BREAK, Kind.CONTINUE, Kind.RETURN,
        Kind.METHOD_INVOCATION, Kind.NEW_ARRAY, Kind.ARRAY_ACCESS, Kind.TYPE_CAST,
        Kind.IDENTIFIER, Kind.INT_LITERAL, Kind.LONG_LITERAL, Kind.CHAR_LITERAL, Kind.BOOLEAN_LITERAL,
        Kind.PARENTHESIZED, Kind.ASSIGNMENT, Kind.CONDITIONAL_EXPRESSION);

    private static CompilationUnitTree unit;
    private static ClassTree only;
    private static SourcePositions positions;

    public static void main(String[] args) throws IOException {
        readSource();
        test("rule 1: one class", LanguageTest::oneClass);
        test("rules 2, 3, 6: what is left of Java", LanguageTest::nothingElse);
        test("rules 2, 6: types", LanguageTest::types);
        test("rule 4: arrays", LanguageTest::arrays);
        test("rule 8: loops", LanguageTest::loops);
        test("rules 8, 10: calls", LanguageTest::calls);
        test("rule 10: short methods", LanguageTest::shortMethods);
        finish();
    }

    private static void readSource() throws IOException {
        JavaCompiler compiler = ToolProvider.getSystemJavaCompiler();
        try (StandardJavaFileManager files = compiler.getStandardFileManager(null, null, null)) {
            JavacTask task = (JavacTask) compiler.getTask(null, files, null, null, null, files.getJavaFileObjects(SOURCE));
            unit = task.parse().iterator().next();
            positions = Trees.instance(task).getSourcePositions();
        }
        only = (ClassTree) unit.getTypeDecls().get(0);
    }

    private static long line(Tree tree) {
        return unit.getLineMap().getLineNumber(positions.getStartPosition(unit, tree));
    }

    private static void each(Tree root, Consumer<Tree> look) {
        new TreeScanner<Void, Void>() {
            @Override
            public Void scan(Tree tree, Void nothing) {
                if (tree != null) {
                    look.accept(tree);
                }
                return super.scan(tree, nothing);
            }
        }.scan(root, null);
    }

    private static <T extends Tree> List<T> all(Tree root, Class<T> kind) {
        List<T> found = new ArrayList<>();
        each(root, tree -> {
            if (kind.isInstance(tree)) {
                found.add(kind.cast(tree));
            }
        });
        return found;
    }

    private static void holds(Tree where, String what, boolean holds) {
        due("line " + line(where) + ", " + what, holds, true);
    }

    private static void oneClass() {
        due("package", "" + unit.getPackageName(), "null");
        due("imports", unit.getImports().size(), 0);
        due("types", unit.getTypeDecls().size(), 1);
        due("classes", all(unit, ClassTree.class).size(), 1);
        due("its name", "" + only.getSimpleName(), "RegexCaptures");
    }

    private static void nothingElse() {
        each(only, tree -> {
            boolean operator = tree instanceof BinaryTree || tree instanceof UnaryTree || tree instanceof CompoundAssignmentTree;
            holds(tree, "kind " + tree.getKind() + " is left", operator || LEFT.contains(tree.getKind()));
        });
    }

    private static void types() {
        for (VariableTree variable : all(only, VariableTree.class)) {
            holds(variable, "type of " + variable.getName(), ("" + variable.getType()).matches(NUMBER + "(\\[\\])?"));
        }
        for (MethodTree method : all(only, MethodTree.class)) {
            holds(method, "type of " + method.getName(), ("" + method.getReturnType()).matches(NUMBER + "|void|null"));
        }
        for (TypeCastTree cast : all(only, TypeCastTree.class)) {
            holds(cast, "cast between numbers", ("" + cast.getType()).matches(NUMBER));
        }
    }

    private static void arrays() {
        Set<String> arrays = new HashSet<>();
        for (Tree member : only.getMembers()) {
            if (member instanceof VariableTree field && field.getInitializer() instanceof NewArrayTree made) {
                arrays.add("" + field.getName());
                holds(field, "is final", field.getModifiers().getFlags().contains(Modifier.FINAL));
                holds(field, "is not static", !field.getModifiers().getFlags().contains(Modifier.STATIC));
                holds(field, "has one length", made.getDimensions().size() == 1 && made.getInitializers() == null);
                holds(field, "its length is fixed", ("" + made.getDimensions()).matches("[A-Z_]+|[1-9][0-9]*"));
            }
        }
        due("arrays that are made", all(only, NewArrayTree.class).size(), arrays.size());
        List<VariableTree> variables = all(only, VariableTree.class);
        variables.removeIf(variable -> variable.getType().getKind() != Kind.ARRAY_TYPE);
        due("variables that are arrays", variables.size(), arrays.size());
        Set<Tree> indexed = new HashSet<>();
        all(only, ArrayAccessTree.class).forEach(access -> indexed.add(access.getExpression()));
        each(only, tree -> {
            boolean array = tree.getKind() == Kind.IDENTIFIER && arrays.contains("" + tree);
            holds(tree, tree + " has an index", !array || indexed.contains(tree));
        });
    }

    private static void loops() {
        for (ForLoopTree loop : all(only, ForLoopTree.class)) {
            String shape = loop.getInitializer() + "; " + loop.getCondition() + "; " + loop.getUpdate();
            holds(loop, shape + " is a counter against a bound",
                shape.matches("int (\\w+) = \\w+; (\\1 <=? \\w+; \\1\\+\\+|\\1 >=? \\w+; \\1--);"));
            Set<String> changed = changedIn(loop.getStatement());
            for (String name : ("" + loop.getCondition()).split("\\W+")) {
                holds(loop, name + " is not changed in it", !changed.contains(name));
            }
        }
    }

    private static Set<String> changedIn(Tree body) {
        Set<String> changed = new HashSet<>();
        all(body, AssignmentTree.class).forEach(a -> changed.add("" + a.getVariable()));
        all(body, CompoundAssignmentTree.class).forEach(a -> changed.add("" + a.getVariable()));
        all(body, UnaryTree.class).forEach(a -> changed.add("" + a.getExpression()));
        return changed;
    }

    private static void calls() {
        Map<String, Set<String>> called = new HashMap<>();
        for (MethodTree method : all(only, MethodTree.class)) {
            Set<String> names = new HashSet<>();
            for (MethodInvocationTree call : all(method, MethodInvocationTree.class)) {
                names.add("" + call.getMethodSelect());
                holds(call, call + " has no call in its arguments", all(call, MethodInvocationTree.class).size() == 1);
            }
            due(method.getName() + " is the only one of its name", called.put("" + method.getName(), names) == null, true);
        }
        for (String method : called.keySet()) {
            int deep = depthOf(method, called, DEEPEST + 1);
            due(method + " is " + deep + " deep, that is allowed", deep <= DEEPEST, true);
            due(method + " calls the class's own methods alone", called.keySet().containsAll(called.get(method)), true);
        }
    }

    /** How deep calls go from a method on, itself counted; a recursion goes as deep as it is followed. */
    private static int depthOf(String method, Map<String, Set<String>> called, int most) {
        int deepest = 0;
        for (String next : called.getOrDefault(method, Set.of())) {
            deepest = Math.max(deepest, most == 1 ? 0 : depthOf(next, called, most - 1));
        }
        return 1 + deepest;
    }

    private static void shortMethods() {
        for (MethodTree method : all(only, MethodTree.class)) {
            long end = unit.getLineMap().getLineNumber(positions.getEndPosition(unit, method));
            holds(method, method.getName() + " is short", end - line(method) < MOST_LINES);
        }
    }
}
