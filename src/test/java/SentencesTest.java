import java.io.IOException;
import java.lang.reflect.Method;
import java.nio.file.DirectoryStream;
import java.nio.file.Files;
import java.nio.file.Path;
import java.util.ArrayList;
import java.util.List;
import java.util.Map;
import java.util.TreeMap;
import java.util.regex.Matcher;
import java.util.regex.Pattern;

/**
 * Holds the tests against the document: what a test says stands there, once, in the section
 * that its name tells, and no word of the document is left without a test that says it. The
 * face, and the calls with which the promises begin, are read by FaceTest.
 */
public final class SentencesTest {
    private static final Path TESTS = Path.of("src/test/java");

    private SentencesTest() {
    }

    public static void main(String[] args) throws IOException, ClassNotFoundException {
        Map<String, String> document = Document.sections();
        Check.due("sections", document.size(), 18);
        Map<String, boolean[]> said = new TreeMap<>();
        for (String section : document.keySet()) {
            said.put(section, new boolean[document.get(section).length()]);
        }
        int tests = 0;
        for (Class<?> ofOneFile : testClasses()) {
            for (Method test : Tests.testsOf(ofOneFile)) {
                tests++;
                mark(test, document, said);
            }
        }
        for (String section : document.keySet()) {
            Check.due(section + " is said by tests but for", left(document.get(section),
                    said.get(section)), "");
        }
        System.out.println(tests + " tests say what they look at");
        Check.finish();
    }

    private static List<Class<?>> testClasses() throws IOException, ClassNotFoundException {
        List<Class<?>> found = new ArrayList<>();
        try (DirectoryStream<Path> files = Files.newDirectoryStream(TESTS, "*Test.java")) {
            for (Path file : files) {
                found.add(Class.forName(file.getFileName().toString().replace(".java", "")));
            }
        }
        return found;
    }

    private static void mark(Method test, Map<String, String> document,
            Map<String, boolean[]> said) {
        String section = sectionOf(test.getName());
        String text = document.getOrDefault(section, "");
        for (String words : test.getAnnotation(Says.class).value()) {
            int at = text.indexOf(words);
            Check.due(test.getName() + " says what stands in " + section + ": " + words, at >= 0);
            Check.due(test.getName() + " says what stands there once: " + words,
                    at == text.lastIndexOf(words));
            for (int i = Math.max(0, at); i < at + words.length(); i++) {
                said.get(section)[i] = true;
            }
        }
    }

    static String sectionOf(String test) {
        Matcher number = Pattern.compile("promise(\\d+)\\D.*").matcher(test);
        return number.matches() ? "Promise " + number.group(1) : Document.TERMS;
    }

    /** The words that no test says; signs between words don't count. */
    private static String left(String text, boolean[] said) {
        StringBuilder found = new StringBuilder();
        for (int i = 0; i < text.length(); i++) {
            if (!said[i]) {
                found.append(text.charAt(i));
            } else if (i > 0 && !said[i - 1]) {
                found.append(" | ");
            }
        }
        return found.toString().chars().anyMatch(Character::isLetterOrDigit)
                ? found.toString() : "";
    }
}
