import java.lang.reflect.Constructor;
import java.lang.reflect.Field;
import java.lang.reflect.Method;
import java.lang.reflect.Modifier;
import java.util.Arrays;
import java.util.List;
import java.util.Set;
import java.util.TreeSet;

/** The public face is the document's, and no more. */
final class FaceTest {
    private static final List<String> METHODS = List.of(
        "int frontier(int, int, int, int)", "int ofPost(int, int)", "int ofSilence(int, int)", "int free(int)",
        "int law(int)", "int carry(int, int)", "int declare(int, boolean)", "int hum(int, int)", "int duty(int)",
        "long clear(int, int)", "long cost(int, int, int, int, int)", "int say(int, int, int, int)",
        "int pack(int)", "int road()", "long worth(int, int, int, int, int)", "int reading(int, int)",
        "int back(int)", "int said(int)", "int frees()", "int laws()", "int kinds(int)",
        "long odds(int, int, int)", "int sheet(int, int, int)", "int lose(int)", "int put(int, int, int)",
        "long cell(int, int, int)", "int copy(int, int, int, int, int)", "int tell(int)", "int hush(int)",
        "int as(int, int)", "int trace()", "int fault()", "int many(int)");

    public static void main(String[] args) {
        Due due = new Due();
        due.holds("the class is public and final",
            Modifier.isPublic(QuietDuty.class.getModifiers()) && Modifier.isFinal(QuietDuty.class.getModifiers()));
        constructors(due);
        methods(due);
        constants(due);
        classesInside(due);
        due.end();
    }

    private static void constructors(Due due) {
        Constructor<?>[] all = QuietDuty.class.getDeclaredConstructors();
        due.is("how many constructors", all.length, 1);
        due.holds("it is public and takes nothing",
            Modifier.isPublic(all[0].getModifiers()) && all[0].getParameterCount() == 0);
    }

    private static void methods(Due due) {
        Set<String> seen = new TreeSet<>();
        Set<String> publicNames = new TreeSet<>();
        Set<String> privateNames = new TreeSet<>();
        for (Method m : QuietDuty.class.getDeclaredMethods()) {
            if (m.isSynthetic()) {
                continue;
            }
            if (Modifier.isPrivate(m.getModifiers())) {
                privateNames.add(m.getName());
                continue;
            }
            publicNames.add(m.getName());
            due.holds(m + " is public, of an object", Modifier.isPublic(m.getModifiers())
                && !Modifier.isStatic(m.getModifiers()));
            String takes = Arrays.toString(m.getParameterTypes());
            seen.add(m.getReturnType() + " " + m.getName() + "(" + takes.substring(1, takes.length() - 1) + ")");
        }
        due.holds("methods " + seen, seen.equals(new TreeSet<>(METHODS)));
        privateNames.retainAll(publicNames);
        due.holds("private methods with public names " + privateNames, privateNames.isEmpty());
    }

    private static void constants(Due due) {
        Set<String> seen = new TreeSet<>();
        for (Field f : QuietDuty.class.getDeclaredFields()) {
            if (!Modifier.isPrivate(f.getModifiers()) && !f.isSynthetic()) {
                seen.add(Modifier.toString(f.getModifiers()) + " " + f.getType() + " " + f.getName());
            }
        }
        due.holds("constants " + seen, seen.equals(Set.of("public static final int UNKNOWN",
            "public static final int OUTSIDE", "public static final int STATE", "public static final int FULL",
            "public static final int NONE", "public static final long LOST")));
        due.is("UNKNOWN", QuietDuty.UNKNOWN, -1);
        due.is("OUTSIDE", QuietDuty.OUTSIDE, -2);
        due.is("STATE", QuietDuty.STATE, -3);
        due.is("FULL", QuietDuty.FULL, -4);
        due.is("NONE", QuietDuty.NONE, -9);
        due.is("LOST", QuietDuty.LOST, Long.MIN_VALUE);
    }

    private static void classesInside(Due due) {
        for (Class<?> c : QuietDuty.class.getDeclaredClasses()) {
            int is = c.getModifiers();
            due.holds(c + " is static and not public", Modifier.isStatic(is) && !Modifier.isPublic(is)
                && !Modifier.isProtected(is));
        }
    }
}
