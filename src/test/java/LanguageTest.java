import java.io.IOException;
import java.nio.file.Files;
import java.nio.file.Path;
import java.util.List;
import java.util.regex.Matcher;
import java.util.regex.Pattern;

/** The rules of ../shared/LANGUAGE.md that can be seen from the source's words. */
final class LanguageTest {
    private static final List<String> NOT_ALLOWED = List.of(
        "\\b(throw|throws|try|catch|finally|synchronized|assert|package|protected|volatile|transient|native)\\b",
        "->", "::", "\\bException\\b", "\\bObject\\b", "\\b(Random|Thread|Runtime|Scanner|File|Date|Instant)\\b",
        "\\bSystem\\.(?!arraycopy\\b)", "\\bArrays\\.(?!(copyOf|copyOfRange|fill)\\b)", "\\w+Exact\\b",
        "\\bString\\.(format|valueOf|join)", "\\bnew\\s+\\w+\\s*\\([^)]*\\)\\s*\\{", "\\bstatic\\s*\\{",
        "\\b(hashCode|toString|getClass|instanceof)\\b");

    public static void main(String[] args) throws IOException {
        Due due = new Due();
        String source = Files.readString(Path.of("src/main/java/QuietDuty.java"));
        due.holds("only signs 9 to 126", source.chars().allMatch(c -> c == '\n' || c >= 32 && c < 127));
        String code = withoutComments(source);
        for (String pattern : NOT_ALLOWED) {
            Matcher m = Pattern.compile(pattern).matcher(code);
            due.holds("no " + pattern, !m.find());
        }
        for (String line : code.split("\n")) {
            if (line.startsWith("import ")) {
                due.holds(line, line.matches("import java\\.util\\.(Arrays|ArrayList|List|Iterator);"));
            }
            if (line.matches(".*\\bstatic\\b.*[=;].*") && !line.contains("(")) {
                due.holds("final: " + line, line.contains(" final "));
            }
        }
        methodsAreShort(due, code);
        due.end();
    }

    private static String withoutComments(String source) {
        return source.replaceAll("(?s)/\\*.*?\\*/", "").replaceAll("//[^\n]*", "");
    }

    /** A method begins with a line that opens a bracket and ends with the line of the same indent that closes it. */
    private static void methodsAreShort(Due due, String code) {
        String[] lines = code.split("\n");
        Pattern head = Pattern.compile("^( +)[\\w\\[\\] ]+ \\w+\\(([^)]*)\\) \\{$");
        for (int from = 0; from < lines.length; from++) {
            Matcher m = head.matcher(lines[from]);
            if (!m.matches()) {
                continue;
            }
            int to = from;
            while (to < lines.length && !lines[to].equals(m.group(1) + "}")) {
                to++;
            }
            due.holds("at most 60 lines: " + lines[from].trim(), to - from <= 60);
            due.holds("at most seven parameters: " + lines[from].trim(), m.group(2).split(",").length <= 7);
        }
    }
}
