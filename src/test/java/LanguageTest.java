import java.io.IOException;
import java.nio.file.Files;
import java.nio.file.Path;
import java.util.HashSet;
import java.util.List;
import java.util.Set;
import java.util.regex.Matcher;
import java.util.regex.Pattern;

/**
 * What of LANGUAGE.md can be seen from the words of the file. It is no proof: the rules that
 * need understanding are for the reader.
 */
public final class LanguageTest {
    private static final Path FILE = Path.of("src/main/java/PodGuideway.java");
    private static final List<String> NOT_ALLOWED = List.of(
            "->", "::", "\\bfinally\\b", "\\bsynchronized\\b", "\\bassert\\b", "\\bpackage\\b",
            "\\bgetMessage\\b", "\\bhashCode\\b", "\\btoString\\b", "\\bequals\\b",
            "\\w*Exact\\b", "\\bvar\\b", "\\byield\\b", "\\bcatch\\b", "\\bThread\\b",
            "\\bSystem\\.(?!arraycopy\\b)", "static \\{", "\\bnative\\b", "\\bvolatile\\b");
    private static final Set<String> EXCEPTIONS = Set.of("IllegalStateException",
            "IllegalArgumentException", "IndexOutOfBoundsException");

    private LanguageTest() {
    }

    public static void main(String[] args) throws IOException {
        String text = Files.readString(FILE);
        String code = text.replaceAll("(?s)/\\*.*?\\*/", "").replaceAll("//.*", "");
        for (String word : NOT_ALLOWED) {
            Check.due("without " + word, !Pattern.compile(word).matcher(code).find());
        }
        for (int i = 0; i < text.length(); i++) {
            if (text.charAt(i) > 127) {
                Check.due("sign at " + i + " is 1 to 127", false);
            }
        }
        checkImports(code);
        checkThrows(code);
        checkRows(code);
        Check.finish();
    }

    private static void checkImports(String code) {
        Matcher found = Pattern.compile("import ([\\w.]+);").matcher(code);
        while (found.find()) {
            Check.due("import", found.group(1), "java.util.Arrays");
        }
    }

    private static void checkThrows(String code) {
        Matcher found = Pattern.compile("throw new (\\w+)\\((\"[^\"]*\")?\\);").matcher(code);
        Set<String> thrown = new HashSet<>();
        int written = 0;
        while (found.find()) {
            thrown.add(found.group(1));
            written++;
        }
        Check.due("every throw makes its exception there",
                code.split("\\bthrow\\b", -1).length - 1L, written);
        Check.due("exceptions", thrown.equals(EXCEPTIONS));
    }

    /** Rows are read and written in four functions alone, which look at the index before. */
    private static void checkRows(String code) {
        int from = code.indexOf("private static int read(");
        Check.due("the functions of rows stand last", from > 0);
        String ahead = code.substring(0, Math.max(0, from));
        Check.due("no index ahead of them", !Pattern.compile("\\w\\[\\w").matcher(
                ahead.replaceAll("new int\\[[^\\]]*\\]", "")).find());
    }
}
