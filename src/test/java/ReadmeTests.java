import java.io.IOException;
import java.lang.reflect.Method;
import java.lang.reflect.Modifier;
import java.net.URL;
import java.net.URLClassLoader;
import java.nio.file.Files;
import java.nio.file.Path;
import java.util.ArrayList;
import java.util.List;
import java.util.regex.Matcher;
import java.util.regex.Pattern;
import javax.tools.ToolProvider;

/** The example of README.md: it compiles as it stands there, and each call answers what is written behind it. */
public final class ReadmeTests {
    private static final Path README = Path.of("README.md"), OWN = Path.of("src/test/java");
    private static final Pattern CALL = Pattern.compile("(kept\\.\\w+\\([^;]*\\)); *// (-?\\w+): .*");
    private static final Pattern OTHER = Pattern.compile("|// .*|KeptPages kept = new KeptPages\\(\\);");
    private static final Checks check = new Checks();

    private final List<String> calls = new ArrayList<>();
    private final List<String> answers = new ArrayList<>();

    public static void main(String[] args) throws IOException, ReflectiveOperationException {
        String readme = Files.readString(README);
        ReadmeTests example = new ReadmeTests();
        example.read(readme);
        example.compare();
        example.coversTheFace();
        namesTheTests(readme);
        check.end("ReadmeTests");
    }

    private void read(String readme) {
        Matcher block = Pattern.compile("(?s)```java\n(.*?)```").matcher(readme);
        check.holds("README.md has an example", block.find());
        for (String line : block.group(1).split("\n")) {
            Matcher call = CALL.matcher(line);
            if (call.matches()) {
                calls.add(call.group(1));
                answers.add(call.group(2));
            } else {
                check.holds("a line that no test reads: " + line, OTHER.matcher(line).matches());
            }
        }
        check.holds("one example", !block.find());
    }

    private void compare() throws IOException, ReflectiveOperationException {
        long[] got = run();
        check.due("answers", got.length, calls.size());
        for (int i = 0; i < got.length; i++) {
            check.due("README.md: " + calls.get(i), got[i], valueOf(answers.get(i)));
        }
    }

    private static long valueOf(String answer) throws ReflectiveOperationException {
        return answer.matches("-?\\d+") ? Long.parseLong(answer) : KeptPages.class.getField(answer).getInt(null);
    }

    /** The calls in their order, on one new object. */
    private long[] run() throws IOException, ReflectiveOperationException {
        Path folder = Files.createTempDirectory("readme");
        Path source = folder.resolve("ReadmeExample.java");
        Files.writeString(source, "public final class ReadmeExample { public static long[] answers() {\n"
            + "KeptPages kept = new KeptPages();\nreturn new long[] {" + String.join(",\n", calls) + "}; } }\n");
        int code = ToolProvider.getSystemJavaCompiler().run(null, null, null, "-cp", System.getProperty("java.class.path"),
            "-d", folder.toString(), source.toString());
        check.due("the compiler", code, 0);
        try (URLClassLoader loader = new URLClassLoader(new URL[] {folder.toUri().toURL()})) {
            return (long[]) loader.loadClass("ReadmeExample").getMethod("answers").invoke(null);
        } finally {
            Files.deleteIfExists(folder.resolve("ReadmeExample.class"));
            Files.delete(source);
            Files.delete(folder);
        }
    }

    private void coversTheFace() {
        for (Method method : KeptPages.class.getDeclaredMethods()) {
            boolean shown = calls.stream().anyMatch(call -> call.startsWith("kept." + method.getName() + "("));
            check.holds("README.md shows " + method.getName(), shown || !Modifier.isPublic(method.getModifiers()));
        }
    }

    private static void namesTheTests(String readme) throws IOException {
        check.holds("README.md says how to run the tests", readme.contains("bash .ci/run"));
        try (var files = Files.list(OWN)) {
            for (Path file : files.toList()) {
                String name = file.getFileName().toString().replace(".java", "");
                check.holds("README.md names " + name, !name.endsWith("Tests") || readme.contains("`" + name + "`"));
            }
        }
    }
}
