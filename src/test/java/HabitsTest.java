import com.sun.source.tree.ArrayAccessTree;
import com.sun.source.tree.BinaryTree;
import com.sun.source.tree.ExpressionTree;
import com.sun.source.tree.ForLoopTree;
import com.sun.source.tree.MethodInvocationTree;
import com.sun.source.tree.MethodTree;
import com.sun.source.tree.NewArrayTree;
import com.sun.source.tree.Tree;
import com.sun.source.tree.Tree.Kind;
import com.sun.source.tree.TypeCastTree;
import com.sun.source.util.TreePath;
import java.io.IOException;
import java.nio.file.Path;
import java.util.HashSet;
import java.util.List;
import java.util.Set;
import java.util.regex.Pattern;
import javax.lang.model.element.Element;
import javax.lang.model.element.Modifier;
import javax.lang.model.element.TypeElement;
import javax.lang.model.element.VariableElement;

/**
 * The habits by which this class keeps the rules of LANGUAGE.md that ask for thought: rows are
 * used where their length is looked at (7), no call leads back to itself (8), loops count (9),
 * and objects are made by constructors alone (12). A class with other habits is left alone.
 */
public final class HabitsTest {
    private static final Path FILE = Path.of("src/main/java/PodGuideway.java");
    private static final String ITS_HABIT = "private static int read(int[] row, int index) {";
    private static final Kind[] LOOPS = {Kind.FOR_LOOP, Kind.ENHANCED_FOR_LOOP, Kind.WHILE_LOOP,
        Kind.DO_WHILE_LOOP};

    private static Source source;

    private HabitsTest() {
    }

    public static void main(String[] args) throws IOException {
        source = Source.of(FILE);
        if (!source.text.contains(ITS_HABIT)) {
            System.out.println("the class has other habits, and is left alone");
            return;
        }
        rule7Indexes();
        rule7Copies();
        rule7Lengths();
        rule7Divisors();
        rule7References();
        rule8Recursion();
        rule9Loops();
        rule12Objects();
        Check.finish();
    }

    private static void none(String habit, Kind... kinds) {
        List<TreePath> found = source.all(kinds);
        Check.due(habit, found.isEmpty() ? "none" : source.at(found.get(0)), "none");
    }

    // ---- rule 7: nothing is used but what the same method has looked at

    private static void rule7Indexes() {
        Check.begin("rule 7");
        for (TreePath path : source.all(Kind.ARRAY_ACCESS)) {
            ArrayAccessTree access = (ArrayAccessTree) path.getLeaf();
            String method = source.words(Source.method(path));
            String row = source.words(access.getExpression());
            String index = source.words(access.getIndex());
            Check.due("index is a name at " + source.at(path), index.matches("\\w+"));
            Check.due("it is looked at, at " + source.at(path), method.matches("(?s).*\\b" + index
                    + " < " + Pattern.quote(row) + "\\.length\\b.*") && method.matches(
                    "(?s).*\\b" + index + "( >= 0| = 0;).*"));
        }
    }

    private static void rule7Copies() {
        for (TreePath path : source.all(Kind.METHOD_INVOCATION)) {
            MethodInvocationTree call = (MethodInvocationTree) path.getLeaf();
            if (call.getMethodSelect().toString().equals("System.arraycopy")) {
                String method = source.words(Source.method(path));
                for (int row = 0; row <= 2; row += 2) {
                    String name = source.words(call.getArguments().get(row));
                    Check.due("length is looked at, at " + source.at(path),
                            method.contains(name + ".length"));
                }
            }
        }
    }

    private static void rule7Lengths() {
        for (TreePath path : source.all(Kind.NEW_ARRAY)) {
            for (ExpressionTree length : ((NewArrayTree) path.getLeaf()).getDimensions()) {
                Check.due("length at " + source.at(path), isConstant(source.words(length))
                        || source.words(length).startsWith("Math.max(0, "));
            }
        }
    }

    private static void rule7Divisors() {
        for (TreePath path : source.all(Kind.DIVIDE, Kind.REMAINDER, Kind.DIVIDE_ASSIGNMENT,
                Kind.REMAINDER_ASSIGNMENT)) {
            String divisor = path.getLeaf() instanceof BinaryTree
                    ? source.words(((BinaryTree) path.getLeaf()).getRightOperand()) : "";
            String name = divisor.replaceFirst("^\\(double\\) ", "");
            Check.due("divisor at " + source.at(path), isConstant(divisor)
                    || source.words(Source.method(path)).contains("if (" + name + " <= 0) {"));
        }
        for (TreePath path : source.all(Kind.METHOD_INVOCATION)) {
            MethodInvocationTree call = (MethodInvocationTree) path.getLeaf();
            if (call.getMethodSelect().toString().matches(".*\\.(floor|ceil)(Mod|Div)")) {
                Check.due("divisor at " + source.at(path),
                        isConstant(source.words(call.getArguments().get(1))));
            }
        }
    }

    /** A product of constants of the class, each of them more than 0. */
    private static boolean isConstant(String words) {
        for (String name : words.split(" \\* ")) {
            boolean found = false;
            for (TreePath path : source.all(Kind.VARIABLE)) {
                VariableElement variable = (VariableElement) source.element(path);
                found = found || variable.getSimpleName().contentEquals(name)
                        && variable.getConstantValue() instanceof Integer
                        && (Integer) variable.getConstantValue() > 0;
            }
            if (!found) {
                return false;
            }
        }
        return true;
    }

    private static void rule7References() {
        none("no null", Kind.NULL_LITERAL);
        for (TreePath path : source.all(Kind.VARIABLE)) {
            Element variable = source.element(path);
            boolean field = variable.getEnclosingElement() instanceof TypeElement;
            // A field that is final has got its object when its constructor ends.
            Check.due("reference at " + source.at(path), !field
                    || variable.asType().getKind().isPrimitive()
                    || variable.getModifiers().contains(Modifier.FINAL));
        }
        for (TreePath path : source.all(Kind.TYPE_CAST)) {
            Tree type = ((TypeCastTree) path.getLeaf()).getType();
            Check.due("cast at " + source.at(path), type.getKind() == Kind.PRIMITIVE_TYPE);
        }
    }

    // ---- rules 8 to 12

    private static void rule8Recursion() {
        Check.begin("rule 8");
        for (TreePath path : source.all(Kind.METHOD)) {
            Element method = source.element(path);
            Set<Element> called = new HashSet<>(List.of(method));
            int before = 0;
            Set<Element> more = callsOf(called);
            while (called.size() > before) {
                before = called.size();
                Check.due("no call of " + method + " by itself", !more.contains(method));
                called.addAll(more);
                more = callsOf(more);
            }
        }
    }

    private static Set<Element> callsOf(Set<Element> methods) {
        Set<Element> found = new HashSet<>();
        for (TreePath path : source.all(Kind.METHOD_INVOCATION)) {
            TreePath from = Source.around(path, Kind.METHOD);
            if (from != null && methods.contains(source.element(from))) {
                found.add(source.element(path));
            }
        }
        return found;
    }

    private static void rule9Loops() {
        Check.begin("rule 9");
        none("loops that count alone", Kind.ENHANCED_FOR_LOOP, Kind.WHILE_LOOP,
                Kind.DO_WHILE_LOOP);
        for (TreePath path : source.all(Kind.FOR_LOOP)) {
            ForLoopTree loop = (ForLoopTree) path.getLeaf();
            String head = source.words(loop).lines().findFirst().orElse("");
            String counter = head.replaceFirst("for \\(int (\\w+) = .*", "$1");
            Check.due("it counts: " + head, head.matches("for \\(int " + counter + " = [^;]+; "
                    + counter + " <=? [^;]+; " + counter + "\\+\\+\\) \\{"));
            String body = source.words(loop.getStatement());
            for (String name : head.split("\\W+")) {
                Check.due(name + " is not set in: " + head, !Pattern.compile("\\b" + name
                        + "(\\+\\+|--| [-+*/%]?= )|(\\+\\+|--)" + name + "\\b").matcher(body)
                        .find());
            }
        }
    }

    /** What is made is made once, by constructors, or thrown. */
    private static void rule12Objects() {
        Check.begin("rule 12");
        for (TreePath path : source.all(Kind.NEW_CLASS, Kind.NEW_ARRAY)) {
            MethodTree method = Source.method(path);
            boolean thrown = path.getParentPath().getLeaf().getKind() == Kind.THROW;
            Check.due("made at " + source.at(path), thrown
                    || method == null || isForConstructors(method));
            Check.due("in no loop, at " + source.at(path), Source.around(path, LOOPS) == null);
        }
    }

    private static boolean isForConstructors(MethodTree method) {
        if (method.getName().contentEquals("<init>")) {
            return true;
        }
        boolean called = false;
        for (TreePath path : source.all(Kind.METHOD_INVOCATION)) {
            MethodInvocationTree call = (MethodInvocationTree) path.getLeaf();
            if (call.getMethodSelect().toString().equals(method.getName().toString())) {
                called = true;
                if (!Source.method(path).getName().contentEquals("<init>")) {
                    return false;
                }
            }
        }
        return called;
    }
}
