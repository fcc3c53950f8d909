import com.sun.source.tree.BinaryTree;
import com.sun.source.tree.CatchTree;
import com.sun.source.tree.ClassTree;
import com.sun.source.tree.MethodTree;
import com.sun.source.tree.NewArrayTree;
import com.sun.source.tree.Tree;
import com.sun.source.tree.Tree.Kind;
import com.sun.source.tree.TryTree;
import com.sun.source.tree.VariableTree;
import com.sun.source.util.TreePath;
import java.io.IOException;
import java.nio.file.DirectoryStream;
import java.nio.file.Files;
import java.nio.file.Path;
import java.util.Collections;
import java.util.HashMap;
import java.util.HashSet;
import java.util.LinkedHashSet;
import java.util.List;
import java.util.Map;
import java.util.Set;
import java.util.regex.Pattern;
import javax.lang.model.element.Element;
import javax.lang.model.element.ElementKind;
import javax.lang.model.element.ExecutableElement;
import javax.lang.model.element.Modifier;
import javax.lang.model.element.VariableElement;
import javax.lang.model.type.ArrayType;
import javax.lang.model.type.TypeKind;
import javax.lang.model.type.TypeMirror;

/**
 * The rules of LANGUAGE.md, one by one, as far as they can be seen from the file. FaceTest looks
 * at rule 1, HabitsTest at rules 7 to 9 and 12, which ask for thought.
 */
public final class LanguageTest {
    private static final Path DIRECTORY = Path.of("src/main/java");
    private static final Path FILE = DIRECTORY.resolve("PodGuideway.java");
    private static final Kind[] CLASSES = {Kind.CLASS, Kind.ENUM, Kind.INTERFACE, Kind.RECORD};
    private static final Set<String> EXCEPTIONS = Set.of("IllegalStateException",
            "IllegalArgumentException", "IndexOutOfBoundsException", "ArithmeticException",
            "UnsupportedOperationException", "NoSuchElementException", "RuntimeException");
    private static final Set<String> LIBRARY_TYPES = Set.of("java.lang.String",
            "java.lang.StringBuilder", "java.lang.Integer", "java.util.ArrayList",
            "java.util.List", "java.util.Iterator", "java.lang.Iterable", "java.lang.Comparable");
    private static final Map<String, String> LIBRARY = Map.ofEntries(
            Map.entry("java.lang.String",
                    "length|charAt|isEmpty|equals|indexOf|substring|toCharArray"),
            Map.entry("java.lang.StringBuilder",
                    "append|charAt|setCharAt|setLength|deleteCharAt|reverse|length|toString"),
            Map.entry("java.util.ArrayList", "add|get|set|remove|size|isEmpty|clear"),
            Map.entry("java.util.List", "add|get|set|remove|size|isEmpty|clear|of"),
            Map.entry("java.util.Iterator", "hasNext|next"),
            Map.entry("java.lang.Iterable", "iterator"),
            Map.entry("java.lang.Comparable", "compareTo"),
            Map.entry("java.lang.System", "arraycopy"),
            Map.entry("java.util.Arrays", "copyOf|copyOfRange|fill"),
            Map.entry("java.lang.Math", "\\w+(?<!Exact)"),
            Map.entry("java.lang.Integer", "\\w+(?<!Exact)"),
            Map.entry("java.lang.Long", "\\w+(?<!Exact)"),
            // What constructors call by themselves, and the clone of an array.
            Map.entry("java.lang.Object", "<init>|clone"),
            Map.entry("java.lang.Enum", "<init>"),
            Map.entry("java.lang.Record", "<init>"));

    private static Source source;

    private LanguageTest() {
    }

    public static void main(String[] args) throws IOException {
        source = Source.of(FILE);
        oneFile();
        rule2Classes();
        rule3Types();
        rule3Doubles();
        rule4Library();
        rule5StaticFields();
        rule6Throws();
        rule6Tries();
        rule6Others();
        rule11Sizes();
        rule11Depth();
        Check.finish();
    }

    /** Nothing of these kinds is in the file. */
    private static void none(String rule, Kind... kinds) {
        List<TreePath> found = source.all(kinds);
        Check.due(rule, found.isEmpty() ? "none" : source.at(found.get(0)), "none");
    }

    private static void oneFile() throws IOException {
        Check.begin("the file");
        Set<String> files = new HashSet<>();
        try (DirectoryStream<Path> found = Files.newDirectoryStream(DIRECTORY)) {
            found.forEach(file -> files.add(file.getFileName().toString()));
        }
        Check.due("files", files.toString(), "[PodGuideway.java]");
        Check.due("without a package line", source.unit.getPackageName() == null);
        Check.due("classes of the file", source.unit.getTypeDecls().size(), 1);
        for (TreePath text : source.all(Kind.STRING_LITERAL, Kind.CHAR_LITERAL)) {
            Check.due("signs at " + source.at(text), source.words(text.getLeaf()).chars()
                    .allMatch(sign -> sign >= 1 && sign <= 127));
        }
    }

    private static void rule2Classes() {
        Check.begin("rule 2");
        none("no lambda", Kind.LAMBDA_EXPRESSION);
        none("no method reference", Kind.MEMBER_REFERENCE);
        for (TreePath inside : source.all(CLASSES)) {
            Check.due("no local class", Source.around(inside, Kind.METHOD) == null
                    || inside.getParentPath().getLeaf().getKind() == Kind.NEW_CLASS);
        }
    }

    // ---- rule 3

    private static void rule3Types() {
        Check.begin("rule 3");
        for (TreePath variable : source.all(Kind.VARIABLE)) {
            Check.due("type at " + source.at(variable), isAllowed(source.type(variable))
                    || source.element(variable).getKind() == ElementKind.EXCEPTION_PARAMETER);
        }
        for (TreePath method : source.all(Kind.METHOD)) {
            ExecutableElement element = (ExecutableElement) source.element(method);
            TypeMirror answer = element.getReturnType();
            Check.due("answer of " + element, answer.getKind() == TypeKind.VOID
                    || isAllowed(answer));
        }
        for (TreePath made : source.all(Kind.NEW_ARRAY)) {
            Check.due("array at " + source.at(made), isAllowed(source.type(made)));
        }
    }

    private static boolean isAllowed(TypeMirror type) {
        if (type.getKind() == TypeKind.ARRAY) {
            TypeMirror part = ((ArrayType) type).getComponentType();
            boolean rows = part.getKind() == TypeKind.ARRAY;
            TypeMirror last = rows ? ((ArrayType) part).getComponentType() : part;
            return last.getKind().isPrimitive() || !rows && isOwn(last);
        }
        return type.getKind().isPrimitive() || isOwn(type) || type.getKind() == TypeKind.TYPEVAR
                || LIBRARY_TYPES.contains(type.toString().replaceFirst("<.*", ""));
    }

    private static boolean isOwn(TypeMirror type) {
        return type.toString().matches("PodGuideway(\\..*)?");
    }

    private static void rule3Doubles() {
        none("no + on texts, no % and no steps on doubles", doubleKinds());
        for (TreePath call : source.all(Kind.METHOD_INVOCATION)) {
            ExecutableElement called = (ExecutableElement) source.element(call);
            boolean fractions = isFraction(called.getReturnType());
            for (VariableElement taken : called.getParameters()) {
                fractions = fractions || isFraction(taken.asType());
            }
            Check.due("no library on doubles at " + source.at(call),
                    !fractions || isOwn(called.getEnclosingElement().asType()));
        }
    }

    /** Those kinds of reckoning that the file uses on a type that they are not allowed on. */
    private static Kind[] doubleKinds() {
        Set<Kind> found = new HashSet<>();
        for (TreePath path : source.all(Kind.REMAINDER, Kind.REMAINDER_ASSIGNMENT,
                Kind.POSTFIX_INCREMENT, Kind.POSTFIX_DECREMENT, Kind.PREFIX_INCREMENT,
                Kind.PREFIX_DECREMENT)) {
            if (isFraction(source.type(path))) {
                found.add(path.getLeaf().getKind());
            }
        }
        for (TreePath path : source.all(Kind.PLUS, Kind.PLUS_ASSIGNMENT)) {
            if (!source.type(path).getKind().isPrimitive()) {
                found.add(path.getLeaf().getKind());
            }
        }
        return found.toArray(new Kind[0]);
    }

    private static boolean isFraction(TypeMirror type) {
        return type.getKind() == TypeKind.DOUBLE || type.getKind() == TypeKind.FLOAT;
    }

    // ---- rules 4 to 6

    private static void rule4Library() {
        Check.begin("rules 4 and 13");
        for (TreePath path : source.all(Kind.IMPORT)) {
            Check.due(source.at(path), source.words(path.getLeaf()).matches("import java\\.util\\."
                    + "(Arrays|ArrayList|List|Iterator|NoSuchElementException|\\*);"));
        }
        for (TreePath call : source.all(Kind.METHOD_INVOCATION)) {
            Element called = source.element(call);
            TypeMirror owner = called.getEnclosingElement().asType();
            String name = owner.toString().replaceFirst("<.*", "");
            Check.due(source.at(call), isOwn(owner) || called.getSimpleName().toString()
                    .matches(LIBRARY.getOrDefault(name, "nothing of it")));
        }
        for (TreePath made : source.all(Kind.NEW_CLASS)) {
            String name = source.type(made).toString().replaceFirst("<.*", "");
            Check.due(source.at(made), isOwn(source.type(made)) || LIBRARY_TYPES.contains(name)
                    || EXCEPTIONS.contains(name.replaceFirst("^java\\.(lang|util)\\.", "")));
        }
    }

    private static void rule5StaticFields() {
        Check.begin("rule 5");
        for (TreePath variable : source.all(Kind.VARIABLE)) {
            Element element = source.element(variable);
            Set<Modifier> kind = element.getModifiers();
            if (kind.contains(Modifier.STATIC)) {
                boolean constant = ((VariableElement) element).getConstantValue() != null;
                Tree value = ((VariableTree) variable.getLeaf()).getInitializer();
                Check.due(source.at(variable), kind.contains(Modifier.FINAL) && (constant
                        || value instanceof NewArrayTree || source.words(variable.getLeaf())
                        .endsWith(".values();") || element.getKind() == ElementKind.ENUM_CONSTANT));
            }
        }
        for (TreePath inside : source.all(CLASSES)) {
            for (Tree member : ((ClassTree) inside.getLeaf()).getMembers()) {
                Check.due("no initialiser block", member.getKind() != Kind.BLOCK);
            }
        }
    }

    private static void rule6Throws() {
        Check.begin("rule 6");
        for (TreePath thrown : source.all(Kind.THROW)) {
            String words = source.words(thrown.getLeaf());
            boolean known = false;
            for (String exception : EXCEPTIONS) {
                known = known || words.matches("throw new " + exception + "\\((\"[^\"]*\")?\\);");
            }
            Check.due(source.at(thrown), known);
            Check.due("no throw in a constructor",
                    !Source.method(thrown).getName().contentEquals("<init>"));
        }
    }

    private static void rule6Tries() {
        for (TreePath path : source.all(Kind.TRY)) {
            TryTree tried = (TryTree) path.getLeaf();
            Check.due("no finally", tried.getFinallyBlock() == null);
            Check.due("no resources", tried.getResources().isEmpty());
            for (TreePath thrown : source.all(Kind.THROW)) {
                Check.due("no try in the method of a throw",
                        Source.method(thrown) != Source.method(path));
            }
            for (CatchTree caught : tried.getCatches()) {
                String name = caught.getParameter().getName().toString();
                for (String type : caught.getParameter().getType().toString().split(" \\| ")) {
                    Check.due("caught " + type, EXCEPTIONS.contains(type));
                }
                Check.due("the exception is left alone", !Pattern.compile("\\b" + name + "\\b")
                        .matcher(source.words(caught.getBlock())).find());
            }
        }
    }

    private static void rule6Others() {
        none("no synchronized", Kind.SYNCHRONIZED);
        for (TreePath path : source.all(Kind.METHOD, Kind.VARIABLE)) {
            Check.due("at " + source.at(path), Collections.disjoint(Set.of(Modifier.SYNCHRONIZED,
                    Modifier.NATIVE, Modifier.VOLATILE), source.element(path).getModifiers()));
        }
        none("no assert", Kind.ASSERT);
        for (TreePath path : source.all(Kind.METHOD)) {
            String name = ((MethodTree) path.getLeaf()).getName().toString();
            Check.due("no " + name + " of its own", !name.matches("equals|hashCode|toString"));
        }
        for (TreePath path : source.all(Kind.EQUAL_TO, Kind.NOT_EQUAL_TO)) {
            TypeMirror type = source.type(path, ((BinaryTree) path.getLeaf()).getLeftOperand());
            Check.due("no == of texts at " + source.at(path),
                    !type.toString().matches("java\\.lang\\.(String|Integer)"));
        }
    }

    // ---- rule 11

    private static void rule11Sizes() {
        Check.begin("rule 11");
        for (TreePath path : source.all(Kind.METHOD)) {
            MethodTree method = (MethodTree) path.getLeaf();
            Check.due("parameters of " + method.getName(), method.getParameters().size() <= 7);
            Check.due("lines of " + method.getName(), source.lines(method) <= 60);
        }
        Check.due("classes", source.all(CLASSES).size() <= 12);
        for (TreePath path : source.all(CLASSES)) {
            int fields = 0;
            for (Tree member : ((ClassTree) path.getLeaf()).getMembers()) {
                Element element = source.element(new TreePath(path, member));
                fields += member.getKind() == Kind.VARIABLE
                        && !element.getModifiers().contains(Modifier.STATIC) ? 1 : 0;
            }
            Check.due("fields of " + ((ClassTree) path.getLeaf()).getSimpleName(), fields <= 20);
        }
    }

    private static void rule11Depth() {
        Map<Element, Set<Element>> calls = new HashMap<>();
        for (TreePath path : source.all(Kind.METHOD_INVOCATION, Kind.NEW_CLASS)) {
            TreePath from = Source.around(path, Kind.METHOD);
            if (from != null) {
                calls.computeIfAbsent(source.element(from), m -> new LinkedHashSet<>())
                        .add(source.element(path));
            }
        }
        for (Element method : calls.keySet()) {
            Check.due("calls that stand open below " + method,
                    depth(method, calls, new LinkedHashSet<>()) <= 8);
        }
    }

    /** How deep the calls go from here, where none is a recursion. */
    private static int depth(Element method, Map<Element, Set<Element>> calls,
            Set<Element> open) {
        if (!open.add(method)) {
            return 0;
        }
        int deepest = 0;
        for (Element called : calls.getOrDefault(method, Set.of())) {
            deepest = Math.max(deepest, depth(called, calls, open));
        }
        open.remove(method);
        return 1 + deepest;
    }
}
