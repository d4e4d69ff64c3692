import java.lang.reflect.InvocationTargetException;
import java.lang.reflect.Method;
import java.util.ArrayList;
import java.util.Arrays;
import java.util.Comparator;
import java.util.List;
import java.util.Random;

/** Long runs of calls, good and bad ones: QuietDuty answers as the oracle does. The runs are always the same. */
final class OracleTest {
    private static final int RUNS = 600;
    private static final int CALLS = 512;
    private static final int[] ODD = {-1, -2, 10, 60, 61, 99999, 100000, Integer.MAX_VALUE, Integer.MIN_VALUE,
        -129, 128, 32768, 256, 65536};

    private final Random random;
    private final QuietDuty asked = new QuietDuty();
    private final Oracle oracle = new Oracle();
    private final Due due;
    private final List<Method> methods;
    private final String name;
    private int calls = 0;

    private OracleTest(int run, Due due, List<Method> methods) {
        this.random = new Random(run);
        this.due = due;
        this.methods = methods;
        this.name = "run " + run;
    }

    public static void main(String[] args) {
        Due due = new Due();
        List<Method> methods = new ArrayList<>();
        for (Method m : QuietDuty.class.getDeclaredMethods()) {
            if (java.lang.reflect.Modifier.isPublic(m.getModifiers())) {
                methods.add(m);
            }
        }
        methods.sort(Comparator.comparing(Method::getName));
        for (int run = 0; run < RUNS && due.wrong() < 20; run++) {
            new OracleTest(run, due, methods).run();
        }
        due.end();
    }

    private void run() {
        if (random.nextInt(4) > 0) {
            frontier();
        }
        while (calls < CALLS) {
            int what = random.nextInt(100);
            if (what < 1) {
                frontier();
            } else if (what < 8) {
                way();
            } else if (what < 10) {
                cells();
            } else if (what < 16) {
                int p = random.nextInt(4);
                call("reading", p, Math.max(0, oracle.duty(p)));
            } else {
                any();
            }
            call("fault");
        }
    }

    /** A text in a sheet, often a whole one, sometimes with a code changed, lost or added. */
    private void frontier() {
        StringBuilder text = new StringBuilder("u").append(digit(0));
        for (int p = random.nextInt(random.nextInt(6) == 0 ? 6 : 4); p >= 0; p--) {
            text.append(';').append(digit(1)).append(digit(0));
        }
        for (int k = random.nextInt(random.nextInt(6) == 0 ? 6 : 4); k >= 0; k--) {
            text.append(',').append("skh".charAt(random.nextInt(3))).append(digit(1)).append(digit(1));
        }
        int place = random.nextInt(text.length());
        char code = "uskh;,0123456789x".charAt(random.nextInt(17));
        switch (random.nextInt(8)) {
            case 0: text.setCharAt(place, code); break;
            case 1: text.insert(place, code); break;
            case 2: text.deleteCharAt(place); break;
            case 3: text.setLength(place); break;
            default: break;
        }
        int before = random.nextInt(3);
        int sheet = random.nextInt(4);
        int lane = random.nextInt(3);
        call("sheet", sheet, lane, before + text.length() + random.nextInt(2));
        for (int i = 0; i < text.length(); i++) {
            call("put", sheet, before + i, text.charAt(i) + (lane == 0 ? 256 * random.nextInt(3) : 0));
        }
        call("frontier", sheet, lane, before, text.length());
    }

    private char digit(int least) {
        return (char) ('0' + least + random.nextInt(10 - least));
    }

    private void way() {
        int sheet = random.nextInt(4);
        int lane = random.nextInt(3);
        int n = random.nextInt(9);
        call("sheet", sheet, lane, n);
        for (int i = 0; i < n; i++) {
            call("put", sheet, i, random.nextInt(Math.max(1, oracle.many(1) + (random.nextInt(40) == 0 ? 1 : 0))));
        }
        call("cost", sheet, lane, 0, n, 0);
        call("cost", sheet, lane, 0, n, 1);
        call("say", sheet, lane, 0, n);
        call("worth", random.nextInt(4), sheet, lane, 0, n);
    }

    /** Numbers that are cut go to a sheet, move within it or to another one, and are read again. */
    private void cells() {
        int from = random.nextInt(4);
        int to = random.nextInt(4);
        int lane = random.nextInt(3);
        call("sheet", from, lane, 4);
        call("sheet", to, random.nextInt(5) == 0 ? random.nextInt(3) : lane, 4);
        for (int i = 0; i < 4; i++) {
            call("put", from, i, random.nextInt());
        }
        call("copy", from, random.nextInt(3), to, random.nextInt(3), random.nextInt(4));
        for (int i = 0; i < 4; i++) {
            call("cell", to, i, lane);
        }
    }

    private void any() {
        Method m = methods.get(random.nextInt(methods.size()));
        Class<?>[] types = m.getParameterTypes();
        Object[] args = new Object[types.length];
        for (int a = 0; a < args.length; a++) {
            args[a] = types[a] == boolean.class ? (Object) random.nextBoolean() : (Object) number();
        }
        call(m.getName(), args);
    }

    private int number() {
        int what = random.nextInt(30);
        if (what == 0) {
            return ODD[random.nextInt(ODD.length)];
        }
        return what < 22 ? random.nextInt(4) : what < 28 ? random.nextInt(10) : random.nextInt(1200);
    }

    private void call(String method, Object... args) {
        if (calls >= CALLS) {
            return;
        }
        calls++;
        String told = name + ", call " + calls + ": " + method + Arrays.toString(args);
        due.is(told, answer(asked, method, args), answer(oracle, method, args));
    }

    private static long answer(Object of, String method, Object[] args) {
        Class<?>[] types = new Class<?>[args.length];
        for (int a = 0; a < args.length; a++) {
            types[a] = args[a] instanceof Boolean ? boolean.class : int.class;
        }
        try {
            return ((Number) of.getClass().getMethod(method, types).invoke(of, args)).longValue();
        } catch (InvocationTargetException | IllegalAccessException | NoSuchMethodException e) {
            throw new IllegalStateException(method + Arrays.toString(args) + " of " + of.getClass(), e);
        }
    }
}
