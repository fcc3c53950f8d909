import java.io.IOException;
import java.lang.reflect.Constructor;
import java.lang.reflect.Field;
import java.lang.reflect.Method;
import java.lang.reflect.Modifier;
import java.nio.file.Files;
import java.nio.file.Path;
import java.util.ArrayList;
import java.util.HashSet;
import java.util.List;
import java.util.Map;
import java.util.Set;
import java.util.TreeSet;

/** The class shows the document's face and nothing else (LANGUAGE.md, rules 1 and 2). */
public final class FaceTest {
    private static final Class<?> FACE = PodGuideway.class;
    private static final Path FILE = Path.of("src/main/java/PodGuideway.java");
    private static final String[] HEADINGS = {"---- stations, pods, riders",
        "---- what is there", "---- minutes and what would be"};
    private static final String[][] CALLS = {{"build", "pod", "ride", "send"},
        {"told", "station", "waits", "slot", "count"},
        {"pass", "when", "takes", "answers", "foresee", "mean", "digest"}};

    private FaceTest() {
    }

    public static void main(String[] args) throws IOException {
        theClass();
        faceIsTheDocuments();
        promisesBeginWithTheFace();
        nothingElseIsShown();
        Tests.runAll(FaceTest.class);
    }

    private static void theClass() {
        Check.due("public and final", Modifier.isPublic(FACE.getModifiers())
                && Modifier.isFinal(FACE.getModifiers()));
        Check.due("package", FACE.getPackageName(), "");
        Check.due("above it", FACE.getSuperclass().getName(), "java.lang.Object");
        Check.due("interfaces", FACE.getInterfaces().length, 0);
    }

    private static void faceIsTheDocuments() throws IOException {
        Set<String> due = new TreeSet<>();
        for (String line : Document.face()) {
            due.add(withoutNames(line));
        }
        Check.due("calls of the document", due.size(), 17);
        Check.due("the face", String.join("\n", shown()), String.join("\n", due));
    }

    /** The promises write each call as the face does, and in its order. */
    private static void promisesBeginWithTheFace() throws IOException {
        List<String> face = Document.face();
        int next = 0;
        for (Map.Entry<String, String> call : Document.calls().entrySet()) {
            String line = face.get(Math.min(next, face.size() - 1));
            Check.due(call.getKey(), call.getValue() + ";", line.replaceFirst("^public ", ""));
            next++;
        }
        Check.due("promises", next, face.size());
    }

    private static Set<String> shown() {
        Set<String> found = new TreeSet<>();
        for (Constructor<?> made : FACE.getDeclaredConstructors()) {
            if (!Modifier.isPrivate(made.getModifiers())) {
                found.add(Modifier.toString(made.getModifiers()) + " " + made.getName()
                        + parameters(made.getParameterTypes(), made.getExceptionTypes()));
            }
        }
        for (Method call : FACE.getDeclaredMethods()) {
            if (!Modifier.isPrivate(call.getModifiers())) {
                found.add(Modifier.toString(call.getModifiers()) + " "
                        + call.getReturnType().getName() + " " + call.getName()
                        + parameters(call.getParameterTypes(), call.getExceptionTypes()));
            }
        }
        return found;
    }

    private static String parameters(Class<?>[] types, Class<?>[] exceptions) {
        String thrown = names(exceptions);
        return "(" + names(types) + ")" + (thrown.isEmpty() ? "" : " throws " + thrown) + ";";
    }

    private static String names(Class<?>[] types) {
        List<String> names = new ArrayList<>();
        for (Class<?> type : types) {
            names.add(type.getSimpleName());
        }
        return String.join(", ", names);
    }

    /** What a parameter is called does not belong to the face. */
    private static String withoutNames(String line) {
        return line.replaceAll("(\\bint) \\w+(?=[,)])", "$1");
    }

    private static Set<String> callNames() {
        Set<String> names = new HashSet<>();
        for (String[] calls : CALLS) {
            names.addAll(List.of(calls));
        }
        return names;
    }

    private static void nothingElseIsShown() {
        Set<String> names = callNames();
        for (Method found : FACE.getDeclaredMethods()) {
            Check.due("private " + found.getName(),
                    !Modifier.isPrivate(found.getModifiers()) || !names.contains(found.getName()));
        }
        for (Field found : FACE.getDeclaredFields()) {
            Check.due("private field " + found.getName(), Modifier.isPrivate(found.getModifiers()));
        }
        for (Class<?> inside : FACE.getDeclaredClasses()) {
            int kind = inside.getModifiers();
            Check.due("class inside " + inside.getName(), Modifier.isStatic(kind)
                    && !Modifier.isPublic(kind) && !Modifier.isProtected(kind));
            for (Method found : inside.getDeclaredMethods()) {
                Check.due("private inside " + found.getName(), !Modifier.isPrivate(
                        found.getModifiers()) || !names.contains(found.getName()));
            }
        }
    }

    @Says("All numbers are whole.")
    private static void allNumbersAreWhole() {
        for (Method call : FACE.getDeclaredMethods()) {
            if (Modifier.isPublic(call.getModifiers())) {
                for (Class<?> type : call.getParameterTypes()) {
                    Check.due(call.getName() + " takes", type.getName(), "int");
                }
                String answer = call.getReturnType().getName();
                // The mean of whole numbers need not be one.
                Check.due(call.getName() + " answers " + answer, call.getName().equals("mean")
                        || answer.equals("int") || answer.equals("long"));
            }
        }
    }

    @Says("Ahead of the calls `build`, `pod`, `ride`, `send` the interface says: "
            + "---- stations, pods, riders.")
    private static void interfaceSaysStationsPodsRiders() throws IOException {
        checkHeading(0);
    }

    @Says("Ahead of the calls `told`, `station`, `waits`, `slot`, `count` the interface says: "
            + "---- what is there.")
    private static void interfaceSaysWhatIsThere() throws IOException {
        checkHeading(1);
    }

    @Says("Ahead of the calls `pass`, `when`, `takes`, `answers`, `foresee`, `mean`, `digest` "
            + "the interface says: ---- minutes and what would be.")
    private static void interfaceSaysMinutesAndWhatWouldBe() throws IOException {
        checkHeading(2);
    }

    /** The words stand ahead of these calls, and behind all calls of the words ahead of them. */
    private static void checkHeading(int heading) throws IOException {
        String text = Files.readString(FILE);
        int at = text.indexOf("// " + HEADINGS[heading] + "\n");
        Check.due("it says " + HEADINGS[heading], at >= 0);
        for (int group = 0; group < CALLS.length; group++) {
            for (String call : CALLS[group]) {
                int declared = declaration(text, call);
                Check.due(call + " is there", declared >= 0);
                Check.due(call + " and " + HEADINGS[heading],
                        group < heading ? declared < at : declared > at);
            }
        }
    }

    private static int declaration(String text, String call) {
        int found = -1;
        for (String type : new String[] {"int", "double", "long"}) {
            found = Math.max(found, text.indexOf("public " + type + " " + call + "("));
        }
        return found;
    }
}
