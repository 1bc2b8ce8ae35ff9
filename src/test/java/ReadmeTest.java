import java.io.IOException;
import java.io.UncheckedIOException;
import java.net.URL;
import java.net.URLClassLoader;
import java.nio.file.Files;
import java.nio.file.Path;
import java.util.ArrayList;
import java.util.List;
import java.util.regex.Matcher;
import java.util.regex.Pattern;
import java.util.stream.Stream;
import javax.tools.ToolProvider;

/** README.md tells every call of the document's face, and its examples, compiled and run as they stand, answer so. */
public final class ReadmeTest {
    private static final String README = "README.md", DOC = "../shared/DOC.md";
    private static final Pattern BLOCK = Pattern.compile("(?ms)^```java\n(.*?)^```$");
    private static final Pattern CALL_OF_FACE = Pattern.compile("public (?:int|long) (\\w+)\\((.*)\\);");
    private static final Pattern EXAMPLE = Pattern.compile("(town\\.(\\w+)\\(.*\\));\\s*// (-?\\d+|[A-Z]+):? .*");
    private static final Due DUE = new Due("ReadmeTest");

    public static void main(String[] args) throws Exception {
        String readme = Files.readString(Path.of(README));
        List<String> shown = new ArrayList<>();
        String program = program(readme, shown);
        everyCallIsTold(readme, shown);
        runExamples(program);
        DUE.end();
    }

    private static void everyCallIsTold(String readme, List<String> shown) throws IOException {
        int calls = 0;
        Matcher call = CALL_OF_FACE.matcher(Files.readString(Path.of(DOC)));
        while (call.find()) {
            String told = "| `" + call.group(1) + "(" + call.group(2).replaceAll("\\bint ", "") + ")` |";
            DUE.is(told + " in README.md", readme.contains(told) ? 1 : 0, 1);
            DUE.is("an example of " + call.group(1), shown.contains(call.group(1)) ? 1 : 0, 1);
            calls++;
        }
        DUE.is("calls of the document's face", calls, 31);
    }

    /** The examples as one class: helpers (blocks that begin with static) beside a main that has all other blocks. */
    private static String program(String readme, List<String> shown) {
        StringBuilder helpers = new StringBuilder();
        StringBuilder body = new StringBuilder();
        Matcher block = BLOCK.matcher(readme);
        while (block.find()) {
            if (block.group(1).startsWith("static ")) {
                helpers.append(block.group(1));
            } else {
                block.group(1).lines().forEach(line -> body.append(checked(line, shown)).append('\n'));
            }
        }
        return "public class Examples {\n" + helpers + "public static void run(ReadmeTest.Examined due) {\n" + body + "}\n}\n";
    }

    /** A call of the town with what the example says of its answer; other lines as they are. */
    private static String checked(String line, List<String> shown) {
        Matcher example = EXAMPLE.matcher(line);
        if (!example.matches()) {
            DUE.is("no answer told: " + line, line.startsWith("town.") ? 1 : 0, 0);
            return line;
        }
        shown.add(example.group(2));
        String answer = example.group(3);
        String due = Character.isLetter(answer.charAt(0)) ? "WinnersLeave." + answer : answer + "L";
        return "due.is(\"" + example.group(1).replace("\"", "\\\"") + "\", " + example.group(1) + ", " + due + ");";
    }

    private static void runExamples(String program) throws Exception {
        Path folder = Files.createTempDirectory("readme");
        try {
            Path source = folder.resolve("Examples.java");
            Files.writeString(source, program);
            int failed = ToolProvider.getSystemJavaCompiler().run(null, null, null, "-proc:none",
                "-cp", System.getProperty("java.class.path"), "-d", folder.toString(), source.toString());
            DUE.is("compiling the examples", failed, 0);
            if (failed == 0) {
                run(folder);
            }
        } finally {
            remove(folder);
        }
    }

    private static void run(Path folder) throws Exception {
        try (URLClassLoader loader = new URLClassLoader(new URL[] {folder.toUri().toURL()})) {
            loader.loadClass("Examples").getMethod("run", Examined.class).invoke(null, new Examined());
        }
    }

    /** What the examples are handed: public, since their class is loaded by another loader. */
    public static final class Examined {
        public void is(String call, long got, long want) {
            DUE.is(call, got, want);
        }
    }

    private static void remove(Path folder) throws IOException {
        try (Stream<Path> files = Files.list(folder)) {
            files.forEach(ReadmeTest::delete);
        }
        Files.delete(folder);
    }

    private static void delete(Path file) {
        try {
            Files.delete(file);
        } catch (IOException e) {
            throw new UncheckedIOException(e);
        }
    }
}
