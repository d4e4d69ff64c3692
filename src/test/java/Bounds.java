import java.lang.reflect.InvocationTargetException;
import java.lang.reflect.Method;
import java.lang.reflect.Modifier;
import java.util.ArrayList;
import java.util.Comparator;
import java.util.List;
import java.util.function.Supplier;
import java.util.function.ToLongFunction;

/** What the tests of boundary cases share. */
final class Bounds {
    static final long LOST = QuietDuty.LOST;
    static final int UNKNOWN = -1, OUTSIDE = -2, STATE = -3, FULL = -4, NONE = -9;
    static final int BY_NULL = -11, BY_CAST = -12, BY_INDEX = -13, BY_SIZE = -14;
    static final int LOW = Integer.MIN_VALUE, HIGH = Integer.MAX_VALUE;
    static final Due DUE = new Due();

    static void is(String told, long got, long want) {
        DUE.is(told, got, want);
    }

    /**
     * A call that names no FAULTS answers so, and all that later calls answer is as it was. The scene
     * makes the same object each time: one is asked, the other one shows how it would be without.
     */
    static void leaves(String told, Supplier<QuietDuty> scene, ToLongFunction<QuietDuty> call, long want) {
        for (int before : new int[] {0, 4}) {
            QuietDuty asked = withFault(scene, before);
            is(told, call.applyAsLong(asked), want);
            is(told + ": fault() stays", asked.fault(), before);
            sameAs(told, asked, withFault(scene, before), before == 0);
        }
    }

    /** The same of a call that names FAULTS: fault() alone changes. */
    static void leaves(String told, Supplier<QuietDuty> scene, ToLongFunction<QuietDuty> call, long want, int fault) {
        for (int before : new int[] {0, 4}) {
            QuietDuty asked = withFault(scene, before);
            is(told, call.applyAsLong(asked), want);
            is(told + ": fault()", asked.fault(), fault);
            sameAs(told, asked, withFault(scene, before), before == 0);
        }
    }

    /** A call that names FAULTS and answers an int is refused (fault() is 0) or comes to a FAULT (-10 less it). */
    static void refused(String told, Supplier<QuietDuty> scene, ToLongFunction<QuietDuty> call, int want) {
        leaves(told, scene, call, want, want <= BY_NULL && want >= BY_SIZE ? -10 - want : 0);
    }

    /** The same of a call that answers a long. */
    static void lost(String told, Supplier<QuietDuty> scene, ToLongFunction<QuietDuty> call, int want) {
        leaves(told, scene, call, LOST, want <= BY_NULL && want >= BY_SIZE ? -10 - want : 0);
    }

    private static QuietDuty withFault(Supplier<QuietDuty> scene, int fault) {
        QuietDuty x = scene.get();
        x.sheet(fault == 0 ? -1 : 0, 0, -1);
        return x;
    }

    private static void sameAs(String told, QuietDuty x, QuietDuty other, boolean backward) {
        List<String> got = Answers.of(x, backward);
        List<String> want = Answers.of(other, backward);
        is(told + ": how much is told", got.size(), want.size());
        for (int a = 0; a < Math.min(got.size(), want.size()); a++) {
            if (!got.get(a).equals(want.get(a))) {
                DUE.holds(told + " changed " + want.get(a) + " to " + got.get(a), false);
                return;
            }
        }
    }

    /** Runs each method of a class whose name begins with "promise": the numbers of the promises that it tests. */
    static List<Integer> run(Class<?> tests) {
        List<Integer> promises = new ArrayList<>();
        Method[] methods = tests.getDeclaredMethods();
        java.util.Arrays.sort(methods, Comparator.comparing(Method::getName));
        for (Method m : methods) {
            if (m.getName().startsWith("promise") && !Modifier.isPrivate(m.getModifiers())) {
                promises.add(Integer.valueOf(m.getName().substring(7, 9)));
                runOne(m);
            }
        }
        return promises;
    }

    private static void runOne(Method m) {
        int wrong = DUE.wrong();
        try {
            m.invoke(null);
        } catch (InvocationTargetException e) {
            DUE.holds(m.getName() + " threw " + e.getCause(), false);
        } catch (IllegalAccessException e) {
            DUE.holds(m.getName() + " can't be run", false);
        }
        if (DUE.wrong() != wrong) {
            System.out.println("FAILED: " + m.getDeclaringClass().getName() + "." + m.getName());
        }
    }

    private Bounds() {
    }
}
