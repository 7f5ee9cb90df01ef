import java.io.IOException;
import java.nio.file.Files;
import java.nio.file.Path;
import java.util.List;
import java.util.regex.Matcher;
import java.util.regex.Pattern;
import java.util.stream.Stream;
import javax.tools.ToolProvider;

/** README.md shows a run of calls on a new object: it compiles as it stands there, and each answer is the one it tells. */
public final class ReadmeTest {
    private static final Path README = Path.of("README.md");
    private static final Path TESTS = Path.of("src/test/java");
    private static final Path BUILD = Path.of("build/readme");
    private static final String MADE = "TableColumnBalancer table = new TableColumnBalancer();";
    /** A call, its answer as a comment behind it, and what the reader is told about it. */
    private static final Pattern CALL =
        Pattern.compile("table\\.(\\w+\\([^)]*\\)); +// (?:throws (\\w+)|(-?\\d+))(?:: .+)?");

    private ReadmeTest() {
    }

    public static void main(String[] args) throws IOException {
        String page = Files.readString(README);
        String run = blockOf(page, "java");
        Rows.due("README.md", compiles(run) ? "a run that compiles" : "a run that does not compile", "a run that compiles");
        Rows.check("README.md", rowsOf(run));
        namesEveryTest(page);
        Rows.end();
    }

    /** The only block of the page in a language. */
    private static String blockOf(String page, String language) {
        String[] parts = page.split("\n```" + language + "\n");
        Rows.due("README.md, the number of runs", String.valueOf(parts.length - 1), "1");
        return parts.length < 2 ? "" : parts[1].split("\n```")[0];
    }

    private static boolean compiles(String run) throws IOException {
        Files.createDirectories(BUILD);
        Path file = BUILD.resolve("Readme.java");
        Files.writeString(file, "final class Readme {\n    void run() {\n" + run + "\n    }\n}\n");
        String path = System.getProperty("java.class.path");
        return ToolProvider.getSystemJavaCompiler().run(null, null, null, "-encoding", "UTF-8", "-cp", path, "-d",
            BUILD.toString(), file.toString()) == 0;
    }

    /** The run in the form that Rows reads; a line that is not a call with its answer is a fault. */
    private static String rowsOf(String run) {
        List<String> lines = run.lines().filter(line -> !line.isBlank()).toList();
        Rows.due("README.md, the first line of the run", lines.isEmpty() ? "" : lines.get(0), MADE);
        StringBuilder rows = new StringBuilder();
        for (String line : lines.subList(Math.min(1, lines.size()), lines.size())) {
            Matcher parts = CALL.matcher(line);
            if (parts.matches()) {
                String answer = parts.group(2) == null ? parts.group(3) : "!" + parts.group(2);
                rows.append(parts.group(1)).append(' ').append(answer).append('\n');
            } else {
                Rows.due("README.md", line, "a call with its answer");
            }
        }
        Rows.due("README.md, calls in the run", rows.isEmpty() ? "none" : "some", "some");
        return rows.toString();
    }

    /** What a test is for stands on the page, so that nobody looks for it in vain. */
    private static void namesEveryTest(String page) throws IOException {
        try (Stream<Path> files = Files.list(TESTS)) {
            for (Path file : files.filter(path -> path.toString().endsWith("Test.java")).sorted().toList()) {
                String name = file.getFileName().toString().replace(".java", "");
                Rows.due("README.md, the test " + name, page.contains("`" + name + "`") ? "named" : "not named", "named");
            }
        }
    }
}
