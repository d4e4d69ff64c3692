import java.io.IOException;
import java.lang.reflect.Method;
import java.lang.reflect.Modifier;
import java.net.URL;
import java.net.URLClassLoader;
import java.nio.file.Files;
import java.nio.file.Path;
import java.util.ArrayList;
import java.util.List;
import java.util.function.BiConsumer;
import java.util.regex.Matcher;
import java.util.regex.Pattern;
import javax.tools.ToolProvider;

/** README.md shows calls with their answers: its lines are compiled as they stand there, run, and compared. */
final class ReadmeTest {
    /** A call in a line of its own, its answer, and perhaps why. */
    private static final Pattern SHOWN =
        Pattern.compile("\\s*((?:x|new QuietDuty\\(\\))\\.(\\w+)\\(.*\\));\\s+// (-?\\d+|[A-Z]+)(?:: .*)?");

    private final Due due = new Due();
    private final List<String> calls = new ArrayList<>();
    private final StringBuilder body = new StringBuilder();

    public static void main(String[] args) throws IOException, ReflectiveOperationException {
        ReadmeTest test = new ReadmeTest();
        test.take(Files.readAllLines(Path.of("README.md")));
        test.everyCallIsShown();
        test.run();
        test.due.end();
    }

    private void take(List<String> lines) {
        boolean inside = false;
        for (int at = 0; at < lines.size(); at++) {
            String line = lines.get(at);
            if (line.startsWith("```")) {
                inside = line.equals("```java");
            } else if (inside) {
                takeLine(at + 1, line);
            }
        }
    }

    private void takeLine(int number, String line) {
        Matcher shown = SHOWN.matcher(line);
        if (!shown.matches()) {
            due.holds("line " + number + " shows a call's answer: " + line, !line.contains("x."));
            body.append(line).append('\n');
            return;
        }
        calls.add(shown.group(2));
        String answer = shown.group(3);
        String want = Character.isLetter(answer.charAt(0)) ? "QuietDuty." + answer : answer + "L";
        String told = "README.md, line " + number + ": " + shown.group(1);
        body.append("told.accept(\"").append(told).append("\", new long[] {").append(shown.group(1)).append(", ")
            .append(want).append("});\n");
    }

    private void everyCallIsShown() {
        for (Method m : QuietDuty.class.getDeclaredMethods()) {
            if (Modifier.isPublic(m.getModifiers())) {
                due.holds("README.md shows " + m.getName(), calls.contains(m.getName()));
            }
        }
    }

    private void run() throws IOException, ReflectiveOperationException {
        Path directory = Files.createTempDirectory("readme");
        Path source = directory.resolve("ReadmeRun.java");
        Path compiled = directory.resolve("ReadmeRun.class");
        try {
            Files.writeString(source, "public final class ReadmeRun {\n"
                + "public static void run(java.util.function.BiConsumer<String, long[]> told) {\n" + body + "}\n}\n");
            int failed = ToolProvider.getSystemJavaCompiler().run(null, null, null,
                "-cp", System.getProperty("java.class.path"), "-d", directory.toString(), source.toString());
            due.is("README.md's calls compile", failed, 0);
            if (failed == 0) {
                compare(directory);
            }
        } finally {
            Files.deleteIfExists(compiled);
            Files.deleteIfExists(source);
            Files.delete(directory);
        }
    }

    private void compare(Path directory) throws IOException, ReflectiveOperationException {
        BiConsumer<String, long[]> told = (call, answers) -> due.is(call, answers[0], answers[1]);
        try (URLClassLoader loader = new URLClassLoader(new URL[] {directory.toUri().toURL()})) {
            loader.loadClass("ReadmeRun").getMethod("run", BiConsumer.class).invoke(null, told);
        }
    }
}
