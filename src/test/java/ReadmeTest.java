import java.net.URL;
import java.net.URLClassLoader;
import java.nio.charset.StandardCharsets;
import java.nio.file.Files;
import java.nio.file.Path;
import java.util.regex.Matcher;
import java.util.regex.Pattern;
import javax.tools.ToolProvider;

/** Runs what README.md shows: each call with a number behind it answers that. Its path is the third argument. */
public final class ReadmeTest {
    private static final Pattern SHOWN = Pattern.compile("(x\\.\\w+\\(.*\\)); +// (-?\\d+): .*");
    private static final Check check = new Check();
    private static int shown;

    public static void main(String[] args) throws Exception {
        String readme = new String(Files.readAllBytes(Path.of(args[2])), StandardCharsets.UTF_8);
        int from = readme.indexOf("```java\n");
        int end = readme.indexOf("\n```\n", from);
        check.holds("there is an example", from >= 0 && end > from);
        if (from >= 0 && end > from) {
            run(program(readme.substring(from + 8, end)));
        }
        check.holds("calls are shown: " + shown, shown > 30);
        check.close();
    }

    private static String program(String example) {
        StringBuilder program = new StringBuilder("public final class Shown {\n    public static void run() {\n");
        for (String line : example.split("\n")) {
            Matcher call = SHOWN.matcher(line);
            if (call.matches()) {
                program.append("ReadmeTest.due(\"").append(call.group(1)).append("\", ")
                    .append(call.group(1)).append(", ").append(call.group(2)).append(");\n");
            } else {
                program.append(line).append('\n');
            }
        }
        return program.append("    }\n}\n").toString();
    }

    private static void run(String program) throws Exception {
        Path folder = Files.createTempDirectory("readme");
        Path file = folder.resolve("Shown.java");
        Files.write(file, program.getBytes(StandardCharsets.UTF_8));
        int refused = ToolProvider.getSystemJavaCompiler().run(null, null, null,
            "-cp", System.getProperty("java.class.path"), "-d", folder.toString(), file.toString());
        check.same("what is shown compiles", refused, 0);
        if (refused == 0) {
            try (URLClassLoader loader = new URLClassLoader(new URL[] {folder.toUri().toURL()})) {
                loader.loadClass("Shown").getMethod("run").invoke(null);
            }
        }
        Files.deleteIfExists(folder.resolve("Shown.class"));
        Files.delete(file);
        Files.delete(folder);
    }

    public static void due(String call, long got, long want) {
        shown++;
        check.same(call, got, want);
    }
}
