import java.io.IOException;
import java.nio.file.Files;
import java.nio.file.Path;
import java.util.ArrayList;
import java.util.LinkedHashMap;
import java.util.List;
import java.util.Map;

/** The document, cut into what stands ahead of the promises, each promise, and the face. */
final class Document {
    static final String TERMS = "Terms";
    private static final Path FILE = Path.of("../shared/DOC.md");

    private Document() {
    }

    /** The lines of the face, without those that open and close the class. */
    static List<String> face() throws IOException {
        List<String> found = new ArrayList<>();
        boolean face = false;
        for (String line : Files.readAllLines(FILE)) {
            face = line.equals("```java") || face && !line.equals("```");
            if (face && line.startsWith("    ")) {
                found.add(line.strip());
            }
        }
        return found;
    }

    /** How each promise begins: the call, as the document writes it there. */
    static Map<String, String> calls() throws IOException {
        Map<String, String> found = new LinkedHashMap<>();
        String section = TERMS;
        for (String line : Files.readAllLines(FILE)) {
            section = sectionAt(line, section);
            if (!section.equals(TERMS) && line.startsWith("`")) {
                found.put(section, line.substring(1, line.indexOf('`', 1)));
            }
        }
        return found;
    }

    /** The words of each section, in one line; without headings, the face and the calls. */
    static Map<String, String> sections() throws IOException {
        Map<String, String> found = new LinkedHashMap<>();
        String section = TERMS;
        boolean face = false;
        for (String line : Files.readAllLines(FILE)) {
            if (line.startsWith("## Not promised")) {
                break;
            }
            face = line.equals("```java") || face && !line.equals("```");
            section = sectionAt(line, section);
            if (!face && !line.startsWith("#") && !line.startsWith("```") && !line.isBlank()) {
                // What a call takes and throws is written again in lines of their own.
                String words = line.strip().replaceFirst("^`[^`]*\\([^`]*`: ?", "");
                found.merge(section, words, (all, more) -> all + " " + more);
            }
        }
        return found;
    }

    private static String sectionAt(String line, String before) {
        return line.startsWith("## Promise ") ? line.substring(3, line.indexOf(':')) : before;
    }
}
