import java.io.IOException;
import java.io.InputStream;
import java.lang.reflect.Method;
import java.lang.reflect.Modifier;
import java.nio.charset.StandardCharsets;
import java.nio.file.Files;
import java.nio.file.Path;
import java.util.ArrayList;
import java.util.List;
import java.util.regex.Matcher;
import java.util.regex.Pattern;

/** README.md: its example is compiled and run, and prints what its comments say; it names every call. */
final class ReadmeTest {
    private static final Check CHECK = new Check();
    private static final Pattern EXAMPLE = Pattern.compile("```java\n(public final class Example .*?)```", Pattern.DOTALL);
    private static final Pattern TOLD = Pattern.compile("println\\(.*\\);\\s*// (-?\\d+)");

    public static void main(String[] args) throws IOException, InterruptedException {
        String text = Files.readString(Path.of("README.md"));
        theExample(text);
        theCalls(text);
        CHECK.that("how to run the tests", text.contains("\n.ci/run\n"));
        CHECK.end();
    }

    private static void theExample(String text) throws IOException, InterruptedException {
        Matcher m = EXAMPLE.matcher(text);
        boolean found = m.find();
        CHECK.that("README.md has an example", found);
        if (!found) {
            return;
        }
        List<String> told = toldBy(m.group(1));
        List<String> printed = printedBy(m.group(1));
        CHECK.due("lines printed by the example", printed.size(), told.size());
        for (int k = 0; k < Math.min(told.size(), printed.size()); k++) {
            CHECK.that("line " + k + " of the example: " + printed.get(k) + ", told " + told.get(k),
                printed.get(k).equals(told.get(k)));
        }
    }

    /** What the comments say, one for each println; one without such a comment is a failure. */
    private static List<String> toldBy(String source) {
        List<String> told = new ArrayList<>();
        for (String line : source.split("\n")) {
            if (line.contains("println")) {
                Matcher m = TOLD.matcher(line);
                boolean found = m.find();
                CHECK.that("a number is told: " + line, found);
                told.add(found ? m.group(1) : "");
            }
        }
        CHECK.that("something is told", !told.isEmpty());
        return told;
    }

    private static List<String> printedBy(String source) throws IOException, InterruptedException {
        Path file = Files.createTempFile("Example", ".java");
        try {
            Files.writeString(file, source);
            return linesOf(file.toString());
        } finally {
            Files.delete(file);
        }
    }

    /** What java prints, as it compiles and runs a source file beside the classes of this test. */
    private static List<String> linesOf(String file) throws IOException, InterruptedException {
        String program = Path.of(System.getProperty("java.home"), "bin", "java").toString();
        String classes = System.getProperty("java.class.path");
        Process run = new ProcessBuilder(program, "-cp", classes, file)
            .redirectError(ProcessBuilder.Redirect.INHERIT).start();
        List<String> lines;
        try (InputStream out = run.getInputStream()) {
            lines = new String(out.readAllBytes(), StandardCharsets.UTF_8).lines().toList();
        }
        CHECK.due("exit code of the example", run.waitFor(), 0);
        return lines;
    }

    private static void theCalls(String text) {
        for (Method m : OneWire.class.getDeclaredMethods()) {
            if (Modifier.isPublic(m.getModifiers())) {
                CHECK.that("README.md names " + m.getName(), text.contains("`" + m.getName() + "`"));
            }
        }
    }
}
