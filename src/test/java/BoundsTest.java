import java.util.Set;
import java.util.TreeSet;

/** Each sentence of the document that names a boundary case, as a method of its own in Part1Bounds to Part5Bounds. */
final class BoundsTest {
    private static final int PROMISES = 34;

    public static void main(String[] args) {
        int sentences = 0;
        Set<Integer> promises = new TreeSet<>();
        for (Class<?> part : new Class<?>[] {Part1Bounds.class, Part2Bounds.class, Part3Bounds.class,
            Part4Bounds.class, Part5Bounds.class}) {
            var run = Bounds.run(part);
            sentences += run.size();
            promises.addAll(run);
        }
        Bounds.is("promises with a boundary case", promises.size(), PROMISES);
        System.out.println(sentences + " sentences");
        Bounds.DUE.end();
    }

    private BoundsTest() {
    }
}
