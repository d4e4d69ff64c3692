import java.io.IOException;
import java.nio.file.Files;
import java.nio.file.Path;
import java.util.Set;

/** QuietDuty keeps the rules of ../shared/LANGUAGE.md that Rules looks at, and Rules sees where one is broken. */
final class LanguageTest {
    /** The rule that is broken, and by which members of a class that is nothing else. */
    private static final String[][] BROKEN = {
        {"1", "public int one() { return 1; } private int one(int v) { return v; }"},
        {"2", "final class Inner { }"},
        {"2", "void one() { class Local { } }"},
        {"3", "private double half;"},
        {"3", "private Inner[][] rows; private static final class Inner { }"},
        {"3", "private java.util.Map<String, String> map;"},
        {"4", "int one() { return Math.addExact(1, 2); }"},
        {"4", "long one() { return System.nanoTime(); }"},
        {"4", "int one(int[] row) { return java.util.Arrays.hashCode(row); }"},
        {"5", "private static int count;"},
        {"5", "private static final int[] ROW = new int[3];"},
        {"5", "static { }"},
        {"6", "void one() { throw new IllegalStateException(); }"},
        {"6", "int one() { try { return 1; } finally { } }"},
        {"6", "void one(int v) { assert v > 0; }"},
        {"6", "void one() { Runnable r = () -> { }; }"},
        {"6", "public String toString() { return \"\"; }"},
        {"6", "Inner one(Top t) { return (Inner) t; } static class Top { } static class Inner extends Top { }"},
        {"7", "int one(int v) { return 1 / v; }"},
        {"7", "int one(int v) { return v % 0; }"},
        {"7", "int one(int v, int w) { v /= w; return v; }"},
        {"8", "int one(int v) { return v > 0 ? one(v - 1) : 0; }"},
        {"8", "int one(int v) { return v > 0 ? other(v - 1) : 0; } int other(int v) { return one(v); }"},
        {"9", "void one(int v) { while (v > 0) { v--; } }"},
        {"9", "void one(int v) { do { v--; } while (v > 0); }"},
        {"9", "void one() { for (;;) { } }"},
        {"9", "void one(int n) { for (int i = 0; i < n; i++) { i--; } }"},
        {"9", "void one(int n) { for (int i = 0; i < n; i++) { n++; } }"},
        {"9", "void one(int n) { for (int i = 0; i < n; i--) { } }"},
        {"9", "void one(int n) { for (int i = 0; i != n; i++) { } }"},
        {"11", "int one(int a, int b, int c, int d, int e, int f, int g, int h) { return a; }"},
        {"11", "int one() {" + "\n".repeat(60) + "return 1; }"},
        {"11", "int a() { return b(); } int b() { return c(); } int c() { return d(); } int d() { return e(); }"
            + "int e() { return f(); } int f() { return g(); } int g() { return h(); } int h() { return i(); }"
            + "int i() { return 1; }"},
        {"12", "int one(int n) { int[] row = new int[3]; return row[0]; }"},
        {"12", "Inner one() { return new Inner(); } static final class Inner { }"},
    };

    public static void main(String[] args) throws IOException {
        Due due = new Due();
        String source = Files.readString(Path.of("src/main/java/QuietDuty.java"));
        due.holds("only signs 32 to 126", source.chars().allMatch(c -> c == '\n' || c >= 32 && c < 127));
        for (String told : Rules.broken(source)) {
            due.holds("rule " + told, false);
        }
        due.is("a class that breaks no rule", broken("").size(), 0);
        for (String[] by : BROKEN) {
            Set<String> told = broken(by[1]);
            due.holds("rule " + by[0] + " is seen to be broken by " + by[1] + " and not " + told,
                told.stream().anyMatch(t -> t.startsWith(by[0] + ": ")));
        }
        due.end();
    }

    private static Set<String> broken(String members) throws IOException {
        return Rules.broken("public final class QuietDuty { " + members + " }");
    }

    private LanguageTest() {
    }
}
