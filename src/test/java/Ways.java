import java.util.function.Supplier;

/** What is refused, and in which order, of a call that takes a WAY: n cells of a SHEET from i on, as a row of a LANE. */
final class Ways {
    interface Call {
        long on(QuietDuty x, int sheet, int lane, int i, int n);
    }

    private final String name;
    private final Call call;
    private final boolean answersLong;

    Ways(String name, boolean answersLong, Call call) {
        this.name = name;
        this.answersLong = answersLong;
        this.call = call;
    }

    private void refused(String told, Supplier<QuietDuty> scene, int want, int... at) {
        String row = name + " " + told + " (" + at[0] + ", " + at[1] + ", " + at[2] + ", " + at[3] + ")";
        if (answersLong) {
            Bounds.lost(row, scene, x -> call.on(x, at[0], at[1], at[2], at[3]), want);
        } else {
            Bounds.refused(row, scene, x -> call.on(x, at[0], at[1], at[2], at[3]), want);
        }
    }

    private void taken(String told, int sheet, int lane, int i, int n) {
        QuietDuty x = Scenes.full();
        x.put(3, 0, 0);
        long answer = call.on(x, sheet, lane, i, n);
        Bounds.DUE.holds(name + " " + told + " is taken, answered " + answer, answer >= 0);
        Bounds.is(name + " " + told + ": fault()", x.fault(), 0);
    }

    void sheetIsOneOf0To3() {
        for (int sheet : new int[] {-1, 4, Bounds.LOW, Bounds.HIGH}) {
            refused("sheet", Scenes::full, Bounds.UNKNOWN, sheet, 0, 0, 1);
        }
        taken("sheet 0", 0, 0, 0, 1);
        QuietDuty x = Scenes.full();
        Due.row(x, 3, 1, 1);
        Bounds.is(name + " sheet 3 is the last", call.on(x, 3, 1, 0, 1), call.on(Scenes.full(), 1, 1, 1, 1));
    }

    void laneIsOneOf0To2() {
        for (int lane : new int[] {-1, 3, Bounds.LOW, Bounds.HIGH}) {
            refused("lane", Scenes::full, Bounds.OUTSIDE, 0, lane, 0, 1);
        }
        for (int lane = 0; lane < 3; lane++) {
            taken("lane " + lane, lane, lane, 0, 1);
        }
    }

    void wayIsOf0To8Cells() {
        for (int n : new int[] {-1, 9, Bounds.LOW, Bounds.HIGH}) {
            refused("n", Scenes::full, Bounds.OUTSIDE, 0, 0, 0, n);
        }
        taken("n 0", 1, 1, 0, 0);
        taken("n 8", 1, 1, 0, 8);
    }

    void outsideIsToldBehindTheSheet() {
        refused("sheet and lane", Scenes::full, Bounds.UNKNOWN, 4, 3, 0, 1);
        refused("sheet and n", Scenes::full, Bounds.UNKNOWN, -1, 0, 0, 9);
    }

    void outsideIsToldAheadOfState() {
        refused("lane, no frontier", Scenes::bare, Bounds.OUTSIDE, 0, 3, 0, 1);
        refused("n, no frontier", Scenes::bare, Bounds.OUTSIDE, 0, 0, 0, 9);
        refused("n, no frontier", Scenes::bare, Bounds.OUTSIDE, 0, 0, 0, -1);
        refused("sheet, no frontier", Scenes::bare, Bounds.UNKNOWN, 4, 0, 0, 1);
    }

    /** n below 0 is OUTSIDE here, no SIZE. */
    void outsideIsToldAheadOfFaults() {
        refused("lane, of nothing", Scenes::full, Bounds.OUTSIDE, 3, -1, 0, 1);
        refused("n, of nothing", Scenes::full, Bounds.OUTSIDE, 3, 0, 0, -1);
        refused("n, of another lane", Scenes::full, Bounds.OUTSIDE, 0, 1, 0, 9);
        refused("n and i", Scenes::full, Bounds.OUTSIDE, 0, 0, -1, -1);
        refused("n, no such cells, no such posts", Scenes::full, Bounds.OUTSIDE, 0, 0, 8, 9);
    }

    void stateIsToldAheadOfFaults() {
        refused("no frontier", Scenes::bare, Bounds.STATE, 0, 0, 0, 0);
        refused("no frontier, another lane", Scenes::bare, Bounds.STATE, 0, 1, 0, 1);
        refused("no frontier, of nothing", Scenes::bare, Bounds.STATE, 3, 0, 0, 1);
        refused("no frontier, index", Scenes::bare, Bounds.STATE, 0, 0, -1, 1);
        refused("no frontier, no posts", Scenes::bare, Bounds.STATE, 0, 0, 0, 1);
    }

    void anotherLaneIsACast() {
        for (int k = 0; k < 3; k++) {
            for (int lane = 0; lane < 3; lane++) {
                if (lane != k) {
                    refused("cast", Scenes::full, Bounds.BY_CAST, k, lane, 0, 1);
                    refused("cast of no cells", Scenes::full, Bounds.BY_CAST, k, lane, 0, 0);
                    refused("cast ahead of index", Scenes::full, Bounds.BY_CAST, k, lane, -1, 1);
                    refused("cast ahead of a post", Scenes::full, Bounds.BY_CAST, k, lane, 8, 1);
                }
            }
        }
        Supplier<QuietDuty> empty = () -> {
            QuietDuty x = Scenes.full();
            x.sheet(3, 1, 0);
            return x;
        };
        refused("an empty row is of its lane", empty, Bounds.BY_CAST, 3, 0, 0, 0);
    }

    void nothingIsNullAndNoCast() {
        for (int lane = 0; lane < 3; lane++) {
            refused("null", Scenes::full, Bounds.BY_NULL, 3, lane, 0, 1);
            refused("null of no cells", Scenes::full, Bounds.BY_NULL, 3, lane, 0, 0);
            refused("null ahead of index", Scenes::full, Bounds.BY_NULL, 3, lane, -1, 1);
        }
    }

    void cellsAreWithinTheRow() {
        int size = Scenes.SIZE;
        for (int k = 0; k < 3; k++) {
            refused("i below 0", Scenes::full, Bounds.BY_INDEX, k, k, -1, 1);
            refused("i below 0, none taken", Scenes::full, Bounds.BY_INDEX, k, k, -1, 0);
            refused("i far below 0", Scenes::full, Bounds.BY_INDEX, k, k, Bounds.LOW, 8);
            refused("one beyond", Scenes::full, Bounds.BY_INDEX, k, k, size, 1);
            refused("one beyond", Scenes::full, Bounds.BY_INDEX, k, k, 3, size - 2);
            refused("i beyond, none taken", Scenes::full, Bounds.BY_INDEX, k, k, size + 1, 0);
            refused("i far beyond", Scenes::full, Bounds.BY_INDEX, k, k, Bounds.HIGH, 0);
            refused("i and n together wrap", Scenes::full, Bounds.BY_INDEX, k, k, Bounds.HIGH, 8);
            refused("index ahead of a post", Scenes::full, Bounds.BY_INDEX, k, k, size - 1, 2);
            taken("the end of the row, none taken", k, k, size, 0);
            taken("ahead of the last two", k, k, 0, size - 2);
        }
        QuietDuty x = Scenes.full();
        Due.row(x, 3, 2, 1);
        Bounds.is(name + " the last cell", call.on(x, 3, 2, 0, 1), call.on(Scenes.full(), 2, 2, 1, 1));
    }

    void eachCellIsAPost() {
        refused("a post above", Scenes::full, Bounds.UNKNOWN, 0, 0, 8, 1);
        refused("a post below 0", Scenes::full, Bounds.UNKNOWN, 0, 0, 9, 1);
        refused("the last of some", Scenes::full, Bounds.UNKNOWN, 1, 1, 1, 8);
        refused("the first of some", Scenes::full, Bounds.UNKNOWN, 2, 2, 8, 2);
        taken("the last post", 0, 0, 3, 1);
        taken("the first post", 0, 0, 0, 1);
        for (int posts = 1; posts < 4; posts++) {
            String text = Scenes.text(posts, 2);
            refused("one of " + posts, () -> Scenes.by(text), Bounds.UNKNOWN, 0, 0, 0, posts + 1);
            Bounds.DUE.holds(name + " all of " + posts, call.on(Scenes.by(text), 0, 0, 0, posts) >= 0);
        }
        for (int far : new int[] {256, 65536, Bounds.LOW, Bounds.HIGH}) {
            refused("ints are not cut: " + far, () -> withInt(far), Bounds.UNKNOWN, 3, 2, 0, 1);
        }
    }

    private static QuietDuty withInt(int v) {
        QuietDuty x = Scenes.full();
        Due.row(x, 3, 2, v);
        return x;
    }
}
