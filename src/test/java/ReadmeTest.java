import java.io.IOException;
import java.lang.reflect.InvocationTargetException;
import java.lang.reflect.Method;
import java.nio.charset.StandardCharsets;
import java.nio.file.DirectoryStream;
import java.nio.file.Files;
import java.nio.file.Path;
import java.util.ArrayList;
import java.util.List;
import java.util.Set;
import java.util.TreeSet;
import java.util.regex.Matcher;
import java.util.regex.Pattern;
import java.util.stream.Stream;

/** The examples and commands of README.md answer as it says, and it leaves no call out. */
public final class ReadmeTest {
    private static final Path README = Path.of("README.md");
    private static final Pattern CALL = Pattern.compile(
            "ring\\.(\\w+)\\(([-\\d, ]*)\\); *// (throws )?(\\S+)");
    private static final String NEW_RING = "PodGuideway ring = new PodGuideway();";

    /** What stands between two lines of ```, with the word behind the first. */
    private record Block(String kind, List<String> lines) {
    }

    private static final Set<String> CALLED = new TreeSet<>();
    private static final Set<String> THROWN = new TreeSet<>();

    private ReadmeTest() {
    }

    public static void main(String[] args) throws IOException, InterruptedException {
        List<String> readme = Files.readAllLines(README);
        List<Block> blocks = blocks(readme);
        for (Block block : blocks) {
            if (block.kind().equals("java") && !isProgram(block)) {
                checkCalls(block);
            }
        }
        checkNothingIsLeftOut(readme);
        checkTestsAreListed(readme);
        Path room = Files.createTempDirectory("readme");
        try {
            checkCommands(blocks, room);
        } finally {
            delete(room);
        }
        Check.finish();
    }

    private static List<Block> blocks(List<String> lines) {
        List<Block> found = new ArrayList<>();
        Block open = null;
        for (String line : lines) {
            if (!line.startsWith("```")) {
                if (open != null) {
                    open.lines().add(line);
                }
            } else if (open == null) {
                open = new Block(line.substring(3), new ArrayList<>());
            } else {
                found.add(open);
                open = null;
            }
        }
        Check.due("the last block is closed", open == null);
        return found;
    }

    private static boolean isProgram(Block block) {
        return block.lines().get(0).startsWith("public final class ");
    }

    // ---- examples

    private static void checkCalls(Block block) {
        Check.due("the first line", block.lines().get(0), NEW_RING);
        PodGuideway ring = new PodGuideway();
        for (String line : block.lines().subList(1, block.lines().size())) {
            Matcher call = CALL.matcher(line);
            Check.due("an example: " + line, call.matches());
            if (call.matches()) {
                String want = (call.group(3) == null ? "" : call.group(3)) + call.group(4);
                Check.due(line, answer(ring, call.group(1), call.group(2)), want);
                CALLED.add(call.group(1));
                if (call.group(3) != null) {
                    THROWN.add(call.group(4));
                }
            }
        }
    }

    private static String answer(PodGuideway ring, String name, String written) {
        String[] numbers = written.isBlank() ? new String[0] : written.split(", ");
        Class<?>[] types = new Class<?>[numbers.length];
        Object[] values = new Object[numbers.length];
        for (int i = 0; i < numbers.length; i++) {
            types[i] = int.class;
            values[i] = Integer.valueOf(numbers[i]);
        }
        try {
            Method call = PodGuideway.class.getMethod(name, types);
            return String.valueOf(call.invoke(ring, values));
        } catch (InvocationTargetException e) {
            return "throws " + e.getCause().getClass().getSimpleName();
        } catch (ReflectiveOperationException e) {
            return "no such call: " + e;
        }
    }

    private static void checkNothingIsLeftOut(List<String> readme) throws IOException {
        Set<String> calls = new TreeSet<>();
        Set<String> exceptions = new TreeSet<>();
        for (String line : Document.face()) {
            Matcher call = Pattern.compile("public \\w+ (\\w+)\\(.*").matcher(line);
            if (call.matches()) {
                calls.add(call.group(1));
            }
            Matcher exception = Pattern.compile("\\w+Exception").matcher(line);
            while (exception.find()) {
                exceptions.add(exception.group());
            }
        }
        Check.due("calls with an example", CALLED.toString(), calls.toString());
        Check.due("exceptions with an example", THROWN.toString(), exceptions.toString());
        Check.due("calls that the table tells of",
                firstCells(readme, "`(\\w+)\\(.*\\)`").toString(), calls.toString());
    }

    // ---- tests

    private static void checkTestsAreListed(List<String> readme) throws IOException {
        Set<String> tests = new TreeSet<>();
        try (DirectoryStream<Path> files = Files.newDirectoryStream(Path.of("src/test/java"),
                "*Test.java")) {
            for (Path file : files) {
                tests.add(file.getFileName().toString().replace(".java", ""));
            }
        }
        Check.due("tests that the table tells of", firstCells(readme, "`(\\w+Test)`").toString(),
                tests.toString());
    }

    private static Set<String> firstCells(List<String> readme, String form) {
        Set<String> found = new TreeSet<>();
        for (String line : readme) {
            Matcher row = Pattern.compile("\\| " + form + " \\|.*").matcher(line);
            if (row.matches()) {
                found.add(row.group(1));
            }
        }
        return found;
    }

    // ---- commands

    /** In a room of its own, with a copy of the sources and the programs of the page. */
    private static void checkCommands(List<Block> blocks, Path room)
            throws IOException, InterruptedException {
        copy(Path.of("src"), room.resolve("src"));
        String printed = "";
        for (Block block : blocks) {
            switch (block.kind()) {
                case "java":
                    if (isProgram(block)) {
                        String name = block.lines().get(0).split(" ")[3];
                        Files.write(room.resolve(name + ".java"), block.lines());
                    }
                    break;
                case "sh":
                    printed = run(block, room);
                    break;
                case "text":
                    Check.due("printed", printed, String.join("\n", block.lines()) + "\n");
                    break;
                default:
                    Check.due("a block of " + block.kind(), false);
            }
        }
    }

    private static String run(Block block, Path room) throws IOException, InterruptedException {
        List<String> commands = new ArrayList<>();
        for (String line : block.lines()) {
            if (line.startsWith(".ci/")) {
                // It runs this very test, so it is not run from here.
                Check.due(line + " can be run", Files.isExecutable(Path.of(line)));
            } else {
                commands.add(line);
            }
        }
        Process process = new ProcessBuilder("sh", "-e", "-c", String.join("\n", commands))
                .directory(room.toFile()).redirectErrorStream(true).start();
        String printed = new String(process.getInputStream().readAllBytes(),
                StandardCharsets.UTF_8);
        int end = process.waitFor();
        Check.due(String.join("; ", block.lines()) + " ends with " + end + ", " + printed,
                end == 0);
        return printed;
    }

    private static void copy(Path from, Path to) throws IOException {
        try (Stream<Path> files = Files.walk(from)) {
            for (Path file : (Iterable<Path>) files::iterator) {
                Files.copy(file, to.resolve(from.relativize(file)));
            }
        }
    }

    private static void delete(Path room) throws IOException {
        List<Path> files = new ArrayList<>();
        try (Stream<Path> found = Files.walk(room)) {
            found.forEach(file -> files.add(0, file));
        }
        for (Path file : files) {
            Files.delete(file);
        }
    }
}
