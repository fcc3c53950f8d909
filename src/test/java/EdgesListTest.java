import java.io.IOException;
import java.lang.reflect.Method;
import java.nio.file.Files;
import java.nio.file.Path;
import java.util.ArrayList;
import java.util.LinkedHashMap;
import java.util.List;
import java.util.Map;
import java.util.regex.Matcher;
import java.util.regex.Pattern;

/**
 * Holds the tests of edges against the document: what a test says stands there, and every
 * sentence of the document that names an edge has a test of its own.
 */
public final class EdgesListTest {
    private static final Path DOCUMENT = Path.of("../shared/DOC.md");
    private static final String TERMS = "Terms";
    /** So begins the line that tells in short what the other lines tell again. */
    private static final String OVERVIEW = "The ring has places past which slots go";
    private static final List<Class<?>> TESTS = List.of(EdgesOfTermsTest.class,
            EdgesOfSetUpTest.class, EdgesOfTellingTest.class, EdgesAheadTest.class);
    /** A sentence with one of these names an edge; most is what there may be, -1 what isn't. */
    private static final Pattern EDGE = Pattern.compile("Throws|-1|\\bmost\\b|\\d+ to \\d+|"
            + "\\bfrom 0\\b|\\b1 for\\b|\\b0 if\\b|[Nn]obody|[Ww]ithout|"
            + "(?<!calls answer is )\\bfree\\b|\\bnone\\b|"
            + "\\bno two\\b|\\bidle\\b|\\bempty\\b|\\bsmallest\\b|\\bfewest\\b|\\bfirst\\b|"
            + "\\bbehind 23\\b|\\bwraps\\b|\\bexception\\b|\\bone place on\\b|\\b\\d minutes\\b");

    private EdgesListTest() {
    }

    public static void main(String[] args) throws IOException {
        Map<String, List<String>> document = sentences(Files.readAllLines(DOCUMENT));
        Check.due("sections", document.size(), 18);
        Map<String, List<String>> said = said(document);
        int needed = 0;
        for (Map.Entry<String, List<String>> section : document.entrySet()) {
            for (String sentence : section.getValue()) {
                if (EDGE.matcher(sentence).find()) {
                    needed++;
                    Check.due(section.getKey() + " has a test of: " + sentence,
                            isSaid(sentence, said.get(section.getKey())));
                }
            }
        }
        System.out.println(needed + " sentences that name an edge");
        Check.finish();
    }

    /** What the tests of each section say, when it stands there. */
    private static Map<String, List<String>> said(Map<String, List<String>> document) {
        Map<String, List<String>> said = new LinkedHashMap<>();
        for (String section : document.keySet()) {
            said.put(section, new ArrayList<>());
        }
        for (Class<?> tests : TESTS) {
            for (Method test : Edges.testsOf(tests)) {
                String section = sectionOf(test.getName());
                String words = test.getAnnotation(Says.class).value();
                boolean stands = document.containsKey(section)
                        && String.join(" ", document.get(section)).contains(words);
                Check.due(test.getName() + " says what stands in " + section, stands);
                if (stands) {
                    said.get(section).add(words);
                }
            }
        }
        return said;
    }

    private static String sectionOf(String test) {
        Matcher number = Pattern.compile("promise(\\d+)\\D.*").matcher(test);
        return number.matches() ? "Promise " + number.group(1) : TERMS;
    }

    private static boolean isSaid(String sentence, List<String> said) {
        for (String words : said) {
            if (sentence.contains(words) || words.contains(sentence)) {
                return true;
            }
        }
        return false;
    }

    /** The sentences of the terms and of each promise; what stands ahead is among the terms. */
    private static Map<String, List<String>> sentences(List<String> lines) {
        Map<String, List<String>> found = new LinkedHashMap<>();
        String section = TERMS;
        boolean face = false;
        for (String line : lines) {
            if (line.startsWith("## Not promised")) {
                break;
            }
            face = line.equals("```java") || face && !line.equals("```");
            if (line.startsWith("## Promise ")) {
                section = line.substring(3, line.indexOf(':'));
            } else if (!face && !line.startsWith("#") && !line.startsWith("```")
                    && !line.startsWith(OVERVIEW)) {
                found.computeIfAbsent(section, s -> new ArrayList<>()).addAll(parts(line));
            }
        }
        return found;
    }

    private static List<String> parts(String line) {
        List<String> found = new ArrayList<>();
        // What a method gives back and throws stands ahead of the words on it.
        String words = line.strip().replaceFirst("^`[^`]*\\([^`]*`: ?", "");
        for (String part : words.split("(?<=[^\\d][.;]) |"
                + "(?<=,) (?=\\d |and riders|each with a st)")) {
            if (!part.isBlank()) {
                found.add(part.strip());
            }
        }
        return found;
    }
}
