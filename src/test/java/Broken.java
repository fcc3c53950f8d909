import java.io.ByteArrayOutputStream;
import java.io.IOException;
import java.io.OutputStream;
import java.io.PrintStream;
import java.lang.reflect.Method;
import java.net.URI;
import java.nio.file.DirectoryStream;
import java.nio.file.Files;
import java.nio.file.Path;
import java.util.ArrayList;
import java.util.HashMap;
import java.util.List;
import java.util.Map;
import java.util.Set;
import java.util.TreeSet;
import javax.tools.FileObject;
import javax.tools.ForwardingJavaFileManager;
import javax.tools.JavaCompiler;
import javax.tools.JavaFileManager;
import javax.tools.JavaFileObject;
import javax.tools.SimpleJavaFileObject;
import javax.tools.ToolProvider;

/**
 * Breaks one sentence of the document after the other in the class, as src/test/broken.txt
 * tells, and looks whether a test that says this sentence fails then. No part of .ci/run, as it
 * knows the words of the class; .ci/broken runs it. What the interface says is left out, as the
 * class behaves the same without it: FaceTest reads it in the file.
 */
public final class Broken {
    private static final Path CLASS = Path.of("src/main/java/PodGuideway.java");
    private static final Path LIST = Path.of("src/test/broken.txt");
    private static final Path TESTS = Path.of("src/test/java");
    private static final PrintStream OUT = System.out;

    /** One change of the class: what it replaces, by what, and the sentence that breaks so. */
    private record Change(int line, String section, String words, List<String> from,
            List<String> to) {
    }

    private Broken() {
    }

    public static void main(String[] args) throws Exception {
        Map<String, String> document = Document.sections();
        List<Change> changes = changes();
        Map<String, boolean[]> broken = new HashMap<>();
        int unseen = faultsOfTheClassAsItIs(document);
        for (Change change : changes) {
            String trouble = look(change, document, broken);
            if (!trouble.isEmpty()) {
                unseen++;
                OUT.println(LIST + ":" + change.line() + ": " + change.section() + ", "
                        + change.words() + ": " + trouble);
            }
        }
        for (String section : new TreeSet<>(document.keySet())) {
            unseen += tellLeft(section, document.get(section), broken.get(section));
        }
        OUT.println(changes.size() + " changes, " + unseen + " faults");
        // A test that a change has kept from its end must not keep this from its own.
        System.exit(unseen == 0 ? 0 : 1);
    }

    /** Without a change no test fails, or it would tell nothing that one fails with it. */
    private static int faultsOfTheClassAsItIs(Map<String, String> document) throws Exception {
        Map<String, byte[]> classes = new HashMap<>();
        OUT.print(compile(Files.readString(CLASS), classes));
        int faults = 0;
        for (Map.Entry<String, String> section : document.entrySet()) {
            String text = section.getValue();
            if (isSeen(classes, section.getKey(), 0, text.length(), text)) {
                faults++;
                OUT.println(section.getKey() + ": a test fails on the class as it is");
            }
        }
        return faults;
    }

    private static List<Change> changes() throws IOException {
        List<Change> found = new ArrayList<>();
        int number = 0;
        for (String line : Files.readAllLines(LIST)) {
            number++;
            if (line.startsWith("@ ")) {
                String[] sentence = line.substring(2).split(" \\| ", 2);
                found.add(new Change(number, sentence[0], sentence[1], new ArrayList<>(),
                        new ArrayList<>()));
            } else if (line.startsWith("- ")) {
                found.get(found.size() - 1).from().add(line.substring(2).replace("\\n", "\n"));
            } else if (line.startsWith("+ ")) {
                found.get(found.size() - 1).to().add(line.substring(2).replace("\\n", "\n"));
            }
        }
        return found;
    }

    /** What is wrong with this change, or nothing if a test has seen it. */
    private static String look(Change change, Map<String, String> document,
            Map<String, boolean[]> broken) throws Exception {
        String text = document.getOrDefault(change.section(), "");
        int start = text.indexOf(change.words());
        if (start < 0 || start != text.lastIndexOf(change.words())) {
            return "stands not once in the document";
        }
        int end = start + change.words().length();
        boolean[] marks = broken.computeIfAbsent(change.section(), s -> new boolean[text.length()]);
        java.util.Arrays.fill(marks, start, end, true);
        String source = Files.readString(CLASS);
        if (change.from().isEmpty() || change.from().size() != change.to().size()) {
            return "tells no change";
        }
        for (int i = 0; i < change.from().size(); i++) {
            String from = change.from().get(i);
            int at = source.indexOf(from);
            if (at < 0 || at != source.lastIndexOf(from)) {
                return "these words stand not once in the class: " + from;
            }
            source = source.substring(0, at) + change.to().get(i)
                    + source.substring(at + from.length());
        }
        Map<String, byte[]> classes = new HashMap<>();
        String trouble = compile(source, classes);
        if (!trouble.isEmpty()) {
            return trouble;
        }
        return isSeen(classes, change.section(), start, end, text) ? "" : "no test fails";
    }

    // ---- the changed class, and the tests on it

    private static String compile(String source, Map<String, byte[]> classes) {
        JavaCompiler compiler = ToolProvider.getSystemJavaCompiler();
        JavaFileManager files = new ForwardingJavaFileManager<JavaFileManager>(
                compiler.getStandardFileManager(null, null, null)) {
            @Override
            public JavaFileObject getJavaFileForOutput(Location location, String name,
                    JavaFileObject.Kind kind, FileObject sibling) {
                return new SimpleJavaFileObject(URI.create("mem:///" + name + ".class"), kind) {
                    @Override
                    public OutputStream openOutputStream() {
                        return new ByteArrayOutputStream() {
                            @Override
                            public void close() {
                                classes.put(name, toByteArray());
                            }
                        };
                    }
                };
            }
        };
        JavaFileObject file = new SimpleJavaFileObject(URI.create("mem:///PodGuideway.java"),
                JavaFileObject.Kind.SOURCE) {
            @Override
            public CharSequence getCharContent(boolean ignoreErrors) {
                return source;
            }
        };
        java.io.StringWriter told = new java.io.StringWriter();
        boolean good = compiler.getTask(told, files, null, List.of("-proc:none"), null,
                List.of(file)).call();
        return good ? "" : "the changed class is no Java: " + told;
    }

    /** Takes the changed class from memory, and makes every test class anew. */
    private static final class Loader extends ClassLoader {
        private final Map<String, byte[]> changed;

        private Loader(Map<String, byte[]> changed) {
            super(Broken.class.getClassLoader());
            this.changed = changed;
        }

        @Override
        protected Class<?> loadClass(String name, boolean resolve) throws ClassNotFoundException {
            Class<?> loaded = findLoadedClass(name);
            if (loaded != null) {
                return loaded;
            }
            byte[] code = changed.get(name);
            try (var stream = getParent().getResourceAsStream(name.replace('.', '/') + ".class")) {
                if (code == null && !name.contains(".") && stream != null) {
                    code = stream.readAllBytes();
                }
            } catch (IOException e) {
                throw new ClassNotFoundException(name, e);
            }
            return code == null ? super.loadClass(name, resolve)
                    : defineClass(name, code, 0, code.length);
        }
    }

    private static boolean isSeen(Map<String, byte[]> classes, String section, int start,
            int end, String text) throws Exception {
        ClassLoader loader = new Loader(classes);
        Class<?> check = loader.loadClass("Check");
        Set<String> names = testsThatSay(section, start, end, text);
        System.setOut(new PrintStream(OutputStream.nullOutputStream()));
        try {
            for (String name : names) {
                String[] parts = name.split("\\.");
                if (fails(loader.loadClass(parts[0]), parts[1], check)) {
                    return true;
                }
            }
        } finally {
            System.setOut(OUT);
        }
        return false;
    }

    private static boolean fails(Class<?> tests, String name, Class<?> check) throws Exception {
        Method test = tests.getDeclaredMethod(name);
        test.setAccessible(true);
        boolean[] threw = new boolean[1];
        Thread thread = new Thread(() -> {
            try {
                test.invoke(null);
            } catch (ReflectiveOperationException e) {
                threw[0] = true;
            }
        });
        thread.setDaemon(true);
        thread.start();
        thread.join(20000);
        Method wrong = check.getDeclaredMethod("wrong");
        wrong.setAccessible(true);
        return threw[0] || thread.isAlive() || (int) wrong.invoke(null) > 0;
    }

    private static Set<String> testsThatSay(String section, int start, int end, String text)
            throws IOException, ClassNotFoundException {
        Set<String> found = new TreeSet<>();
        try (DirectoryStream<Path> files = Files.newDirectoryStream(TESTS, "*Test.java")) {
            for (Path file : files) {
                String name = file.getFileName().toString().replace(".java", "");
                for (Method test : Tests.testsOf(Class.forName(name))) {
                    for (String words : test.getAnnotation(Says.class).value()) {
                        int at = text.indexOf(words);
                        if (SentencesTest.sectionOf(test.getName()).equals(section) && at >= 0
                                && at < end && start < at + words.length()) {
                            found.add(name + "." + test.getName());
                        }
                    }
                }
            }
        }
        return found;
    }

    /** Tells the words of a section that no change breaks; 1 if there are any, else 0. */
    private static int tellLeft(String section, String text, boolean[] broken) {
        StringBuilder left = new StringBuilder();
        for (int i = 0; i < text.length(); i++) {
            if (broken == null || !broken[i]) {
                left.append(text.charAt(i));
            }
        }
        String words = left.toString().replaceAll("Ahead of the calls [^:]*the interface says: "
                + "---- [^.]*\\.", "").strip();
        if (!words.isEmpty()) {
            OUT.println(section + " is not broken at: " + words);
        }
        return words.isEmpty() ? 0 : 1;
    }
}
