import java.util.function.ToLongFunction;

/** The boundary cases of part 5, sheets and parts: a method for each sentence, named after its promise. */
final class Part5Bounds {
    private static final int UNKNOWN = Bounds.UNKNOWN, OUTSIDE = Bounds.OUTSIDE;
    private static final int BY_NULL = Bounds.BY_NULL, BY_CAST = Bounds.BY_CAST, BY_INDEX = Bounds.BY_INDEX;
    private static final int LOW = Bounds.LOW, HIGH = Bounds.HIGH, SIZE = Scenes.SIZE;

    private static void is(String told, long got, long want) {
        Bounds.is(told, got, want);
    }

    private static QuietDuty withEmptyRow() {
        QuietDuty x = Scenes.full();
        x.sheet(3, 1, 0);
        return x;
    }

    // ---- 24 sheet

    static void promise24SheetIsOneOf0To3() {
        for (int k : new int[] {-1, 4, LOW, HIGH}) {
            Bounds.refused("24 sheet " + k, Scenes::full, x -> x.sheet(k, 0, 1), UNKNOWN);
        }
        QuietDuty x = new QuietDuty();
        for (int k = 0; k < 4; k++) {
            is("24 sheet " + k, x.sheet(k, 0, k + 1), 1);
        }
        for (int k = 0; k < 4; k++) {
            is("24 its last cell", x.put(k, k, 0), 1);
            is("24 no cell", x.put(k, k + 1, 0), BY_INDEX);
        }
    }

    static void promise24LaneIsOneOf0To2() {
        for (int lane : new int[] {-1, 3, LOW, HIGH}) {
            Bounds.refused("24 lane " + lane, Scenes::full, x -> x.sheet(0, lane, 1), OUTSIDE);
        }
        QuietDuty x = new QuietDuty();
        for (int lane = 0; lane < 3; lane++) {
            is("24 lane " + lane, x.sheet(0, lane, 1), 1);
            is("24 of that lane", x.cell(0, 0, lane), 0);
            is("24 of no other", x.cell(0, 0, (lane + 1) % 3), Bounds.LOST);
        }
    }

    static void promise24NumbersAre0To60() {
        for (int n : new int[] {61, 62, HIGH}) {
            Bounds.refused("24 n " + n, Scenes::full, x -> x.sheet(0, 0, n), OUTSIDE);
        }
        for (int lane = 0; lane < 3; lane++) {
            QuietDuty x = new QuietDuty();
            is("24 n 60", x.sheet(3, lane, 60), 1);
            is("24 its last cell", x.put(3, 59, 7), 1);
            is("24 no cell", x.put(3, 60, 7), BY_INDEX);
            is("24 n 0", x.sheet(3, lane, 0), 1);
            is("24 no cell", x.put(3, 0, 7), BY_INDEX);
        }
    }

    static void promise24LengthBelow0IsSize() {
        for (int n : new int[] {-1, -61, LOW}) {
            Bounds.refused("24 n " + n, Scenes::full, x -> x.sheet(0, 0, n), Bounds.BY_SIZE);
            Bounds.refused("24 of what had nothing, n " + n, Scenes::full, x -> x.sheet(3, 2, n), Bounds.BY_SIZE);
        }
    }

    static void promise24UnknownThenOutsideThenSize() {
        Bounds.refused("24 sheet and lane", Scenes::full, x -> x.sheet(4, 3, 1), UNKNOWN);
        Bounds.refused("24 sheet and n", Scenes::full, x -> x.sheet(-1, 0, 61), UNKNOWN);
        Bounds.refused("24 sheet and size", Scenes::full, x -> x.sheet(4, 0, -1), UNKNOWN);
        Bounds.refused("24 lane and size", Scenes::full, x -> x.sheet(0, 3, -1), OUTSIDE);
        Bounds.refused("24 lane and size", Scenes::full, x -> x.sheet(0, -1, -1), OUTSIDE);
    }

    static void promise24NewRowIsOf0() {
        for (int lane = 0; lane < 3; lane++) {
            QuietDuty x = new QuietDuty();
            Due.row(x, 1, lane, 5, 6, 7, 8);
            x.sheet(1, lane, 2);
            is("24 the first", x.cell(1, 0, lane), 0);
            is("24 the last", x.cell(1, 1, lane), 0);
            x.sheet(1, lane, 4);
            is("24 a longer one again", x.cell(1, 3, lane), 0);
        }
    }

    static void promise24NewRowComesToNoFault() {
        QuietDuty x = Scenes.full();
        x.put(3, 0, 0);
        is("24 a fault ahead", x.fault(), 1);
        is("24 taken", x.sheet(3, 0, 0), 1);
        is("24 none", x.fault(), 0);
    }

    // ---- 25 lose

    static void promise25SheetIsOneOf0To3() {
        for (int k : new int[] {-1, 4, LOW, HIGH}) {
            Bounds.leaves("25 sheet " + k, Scenes::full, x -> x.lose(k), UNKNOWN);
        }
        QuietDuty x = Scenes.full();
        x.sheet(3, 0, 1);
        is("25 the first", x.lose(0), 1);
        is("25 the last", x.lose(3), 1);
        is("25 the first has nothing", x.put(0, 0, 0), BY_NULL);
        is("25 the last has nothing", x.put(3, 0, 0), BY_NULL);
        is("25 no other", x.put(1, 0, 0), 1);
    }

    static void promise25ItHadNothing() {
        Bounds.leaves("25 nothing", Scenes::full, x -> x.lose(3), 0);
        Bounds.leaves("25 nothing", QuietDuty::new, x -> x.lose(0), 0);
        QuietDuty x = Scenes.full();
        is("25 it had a row", x.lose(0), 1);
        is("25 it had nothing", x.lose(0), 0);
    }

    static void promise25AnEmptyRowIsSomething() {
        QuietDuty x = withEmptyRow();
        is("25 empty", x.lose(3), 1);
        is("25 nothing", x.lose(3), 0);
    }

    static void promise25LostRowIsGone() {
        QuietDuty x = Scenes.full();
        x.lose(1);
        x.sheet(1, 1, SIZE);
        is("25 a new row is of 0", x.cell(1, 1, 1), 0);
    }

    // ---- 26 put

    static void promise26SheetIsOneOf0To3() {
        for (int k : new int[] {-1, 4, LOW, HIGH}) {
            Bounds.refused("26 sheet " + k, Scenes::full, x -> x.put(k, 0, 1), UNKNOWN);
            Bounds.refused("26 sheet and i " + k, Scenes::full, x -> x.put(k, -1, 1), UNKNOWN);
        }
        QuietDuty x = Scenes.full();
        x.sheet(3, 2, 1);
        is("26 the last", x.put(3, 0, 9), 1);
        is("26 it became", x.cell(3, 0, 2), 9);
    }

    static void promise26NothingIsNull() {
        Bounds.refused("26 null", Scenes::full, x -> x.put(3, 0, 1), BY_NULL);
        Bounds.refused("26 null ahead of index", Scenes::full, x -> x.put(3, -1, 1), BY_NULL);
        Bounds.refused("26 null ahead of index", Scenes::full, x -> x.put(3, HIGH, 1), BY_NULL);
    }

    static void promise26CellIsWithinTheRow() {
        for (int lane = 0; lane < 3; lane++) {
            int k = lane;
            for (int i : new int[] {-1, SIZE, LOW, HIGH}) {
                Bounds.refused("26 cell " + i, Scenes::full, x -> x.put(k, i, 1), BY_INDEX);
            }
            QuietDuty x = Scenes.full();
            is("26 the first cell", x.put(k, 0, 11), 1);
            is("26 the last cell", x.put(k, SIZE - 1, 12), 1);
            is("26 it became", x.cell(k, 0, lane), 11);
            is("26 it became", x.cell(k, SIZE - 1, lane), 12);
            is("26 no other", x.cell(k, 1, lane), 1);
        }
        Bounds.refused("26 of an empty row", Part5Bounds::withEmptyRow, x -> x.put(3, 0, 1), BY_INDEX);
    }

    static void promise26BytesAreCut() {
        int[][] cut = {{127, 127}, {128, -128}, {-128, -128}, {-129, 127}, {255, -1}, {256, 0}, {-256, 0}, {HIGH, -1},
            {LOW, 0}};
        cutsAre(0, cut);
    }

    static void promise26ShortsAreCut() {
        int[][] cut = {{128, 128}, {-129, -129}, {32767, 32767}, {32768, -32768}, {-32768, -32768}, {-32769, 32767},
            {65535, -1}, {65536, 0}, {HIGH, -1}, {LOW, 0}};
        cutsAre(1, cut);
    }

    static void promise26IntsAreNotCut() {
        int[][] cut = {{32768, 32768}, {-32769, -32769}, {65536, 65536}, {HIGH, HIGH}, {LOW, LOW}};
        cutsAre(2, cut);
    }

    private static void cutsAre(int lane, int[][] cut) {
        QuietDuty x = Scenes.bare();
        for (int[] v : cut) {
            is("26 lane " + lane + " takes " + v[0], x.put(lane, 3, v[0]), 1);
            is("26 lane " + lane + " has of " + v[0], x.cell(lane, 3, lane), v[1]);
        }
    }

    // ---- 27 cell

    static void promise27SheetIsOneOf0To3() {
        for (int k : new int[] {-1, 4, LOW, HIGH}) {
            Bounds.lost("27 sheet " + k, Scenes::full, x -> x.cell(k, 0, 0), UNKNOWN);
        }
        QuietDuty x = Scenes.full();
        Due.row(x, 3, 2, 9);
        is("27 the last", x.cell(3, 0, 2), 9);
        Bounds.leaves("27 the first", Scenes::full, y -> y.cell(0, 1, 0), 1, 0);
    }

    static void promise27LaneIsOneOf0To2() {
        for (int lane : new int[] {-1, 3, LOW, HIGH}) {
            Bounds.lost("27 lane " + lane, Scenes::full, x -> x.cell(0, 0, lane), OUTSIDE);
            Bounds.lost("27 of nothing, lane " + lane, Scenes::full, x -> x.cell(3, 0, lane), OUTSIDE);
            Bounds.lost("27 no cell, lane " + lane, Scenes::full, x -> x.cell(0, -1, lane), OUTSIDE);
        }
        for (int lane = 0; lane < 3; lane++) {
            int k = lane;
            Bounds.leaves("27 lane " + lane, Scenes::full, x -> x.cell(k, 3, k), 3, 0);
        }
    }

    static void promise27AnotherLaneIsACast() {
        for (int k = 0; k < 3; k++) {
            int sheet = k;
            for (int other = 1; other < 3; other++) {
                int lane = (k + other) % 3;
                Bounds.lost("27 cast", Scenes::full, x -> x.cell(sheet, 0, lane), BY_CAST);
                Bounds.lost("27 cast ahead of index", Scenes::full, x -> x.cell(sheet, -1, lane), BY_CAST);
                Bounds.lost("27 cast ahead of index", Scenes::full, x -> x.cell(sheet, SIZE, lane), BY_CAST);
            }
        }
        Bounds.lost("27 of an empty row", Part5Bounds::withEmptyRow, x -> x.cell(3, 0, 0), BY_CAST);
    }

    static void promise27NothingIsNullAndNoCast() {
        for (int k = 0; k < 3; k++) {
            int lane = k;
            Bounds.lost("27 null", Scenes::full, x -> x.cell(3, 0, lane), BY_NULL);
            Bounds.lost("27 null ahead of index", Scenes::full, x -> x.cell(3, -1, lane), BY_NULL);
        }
    }

    static void promise27CellIsWithinTheRow() {
        for (int lane = 0; lane < 3; lane++) {
            int k = lane;
            for (int i : new int[] {-1, SIZE, LOW, HIGH}) {
                Bounds.lost("27 cell " + i, Scenes::full, x -> x.cell(k, i, k), BY_INDEX);
            }
            Bounds.leaves("27 the first cell", Scenes::full, x -> x.cell(k, 0, k), 0, 0);
            Bounds.leaves("27 the last cell", Scenes::full, x -> x.cell(k, SIZE - 1, k), -1, 0);
        }
        Bounds.lost("27 of an empty row", Part5Bounds::withEmptyRow, x -> x.cell(3, 0, 1), BY_INDEX);
    }

    // ---- 28 copy

    private static QuietDuty withTwoRows() {
        QuietDuty x = Scenes.full();
        Due.row(x, 0, 1, 11, 12, 13, 14);
        Due.row(x, 3, 1, 31, 32, 33);
        return x;
    }

    private static void rowIs(String told, QuietDuty x, int k, int... want) {
        for (int i = 0; i < want.length; i++) {
            is("28 " + told + ": cell " + i, x.cell(k, i, 1), want[i]);
        }
    }

    static void promise28SheetsAreOf0To3() {
        for (int k : new int[] {-1, 4, LOW, HIGH}) {
            Bounds.refused("28 the first " + k, Scenes::full, x -> x.copy(k, 0, 1, 0, 1), UNKNOWN);
            Bounds.refused("28 the other " + k, Scenes::full, x -> x.copy(1, 0, k, 0, 1), UNKNOWN);
            Bounds.refused("28 both " + k, Scenes::full, x -> x.copy(k, 0, k, 0, 1), UNKNOWN);
        }
        QuietDuty x = withTwoRows();
        is("28 from 0 to 3", x.copy(0, 0, 3, 0, 1), 1);
        is("28 from 3 to 0", x.copy(3, 2, 0, 3, 1), 1);
        rowIs("0", x, 0, 11, 12, 13, 33);
        rowIs("3", x, 3, 11, 32, 33);
    }

    static void promise28UnknownIsToldAheadOfFaults() {
        Bounds.refused("28 the first has nothing", Scenes::full, x -> x.copy(3, 0, 4, 0, 1), UNKNOWN);
        Bounds.refused("28 the other has nothing", Scenes::full, x -> x.copy(-1, 0, 3, 0, 1), UNKNOWN);
        Bounds.refused("28 and index", Scenes::full, x -> x.copy(0, -1, 4, -1, -1), UNKNOWN);
    }

    static void promise28NothingIsNull() {
        Bounds.refused("28 the first", Scenes::full, x -> x.copy(3, 0, 0, 0, 1), BY_NULL);
        Bounds.refused("28 the other", Scenes::full, x -> x.copy(0, 0, 3, 0, 1), BY_NULL);
        Bounds.refused("28 both", Scenes::full, x -> x.copy(3, 0, 3, 0, 0), BY_NULL);
        Bounds.refused("28 the first, ahead of index", Scenes::full, x -> x.copy(3, -1, 0, -1, -1), BY_NULL);
        Bounds.refused("28 the other, ahead of index", Scenes::full, x -> x.copy(0, -1, 3, -1, -1), BY_NULL);
        Bounds.refused("28 no cells", Scenes::full, x -> x.copy(0, 0, 3, 0, 0), BY_NULL);
    }

    static void promise28UnlikeLanesAreACast() {
        for (int k = 0; k < 3; k++) {
            int from = k;
            for (int other = 1; other < 3; other++) {
                int to = (k + other) % 3;
                Bounds.refused("28 cast", Scenes::full, x -> x.copy(from, 0, to, 0, 1), BY_CAST);
                Bounds.refused("28 cast of no cells", Scenes::full, x -> x.copy(from, 0, to, 0, 0), BY_CAST);
                Bounds.refused("28 cast ahead of i", Scenes::full, x -> x.copy(from, -1, to, 0, 1), BY_CAST);
                Bounds.refused("28 cast ahead of j", Scenes::full, x -> x.copy(from, 0, to, SIZE + 1, 0), BY_CAST);
                Bounds.refused("28 cast ahead of n", Scenes::full, x -> x.copy(from, 0, to, 0, -1), BY_CAST);
            }
        }
    }

    static void promise28CellsAreWithinBothRows() {
        int[][] beyond = {{-1, 0, 0}, {-1, 0, 1}, {0, -1, 0}, {0, -1, 1}, {0, 0, -1}, {4, 0, 1}, {0, 3, 1}, {5, 0, 0},
            {0, 4, 0}, {1, 0, 4}, {0, 1, 3}, {0, 0, 4}, {2, 0, 3}, {HIGH, 0, 0}, {0, HIGH, 0}, {0, 0, HIGH},
            {1, 1, HIGH}, {HIGH, HIGH, HIGH}, {LOW, 0, 1}, {0, LOW, 1}, {0, 0, LOW}, {LOW, LOW, LOW}, {4, 3, -1},
            {HIGH, 0, 1}, {0, HIGH, 1}};
        for (int[] at : beyond) {
            Bounds.refused("28 index " + at[0] + ", " + at[1] + ", " + at[2], Part5Bounds::withTwoRows,
                x -> x.copy(0, at[0], 3, at[1], at[2]), BY_INDEX);
        }
        for (int[] at : new int[][] {{-1, 0, 1}, {0, -1, 1}, {0, 0, 5}, {1, 0, 4}, {0, 1, 4}, {5, 0, 0}, {0, 5, 0}}) {
            Bounds.refused("28 of one, index " + at[0] + ", " + at[1] + ", " + at[2], Part5Bounds::withTwoRows,
                x -> x.copy(0, at[0], 0, at[1], at[2]), BY_INDEX);
        }
    }

    static void promise28NoCells() {
        Bounds.leaves("28 at the starts", Part5Bounds::withTwoRows, x -> x.copy(0, 0, 3, 0, 0), 0, 0);
        Bounds.leaves("28 at the ends", Part5Bounds::withTwoRows, x -> x.copy(0, 4, 3, 3, 0), 0, 0);
        Bounds.leaves("28 of an empty row", Part5Bounds::withEmptyRow, x -> x.copy(3, 0, 3, 0, 0), 0, 0);
    }

    static void promise28AllCells() {
        QuietDuty x = withTwoRows();
        x.put(2, -1, 0);
        is("28 all of the other's", x.copy(0, 1, 3, 0, 3), 3);
        is("28 no fault", x.fault(), 0);
        rowIs("3", x, 3, 12, 13, 14);
        rowIs("0 stays", x, 0, 11, 12, 13, 14);
        Bounds.leaves("28 to itself", Part5Bounds::withTwoRows, y -> y.copy(0, 0, 0, 0, 4), 4, 0);
    }

    /** Cells go as they were, also where those that are written are still to be read. */
    static void promise28TheSameSheet() {
        QuietDuty up = withTwoRows();
        is("28 up by one", up.copy(0, 0, 0, 1, 3), 3);
        rowIs("up", up, 0, 11, 11, 12, 13);
        QuietDuty down = withTwoRows();
        is("28 down by one", down.copy(0, 1, 0, 0, 3), 3);
        rowIs("down", down, 0, 12, 13, 14, 14);
    }

    // ---- 29, 30 tell, hush

    static void promise29NoSuchSilence() {
        for (int k : new int[] {-1, 4, LOW, HIGH}) {
            Bounds.leaves("29 silence " + k, Scenes::full, x -> x.tell(k), UNKNOWN);
        }
        Bounds.leaves("29 of two", () -> Scenes.by(Scenes.text(1, 2)), x -> x.tell(2), UNKNOWN);
        Bounds.leaves("29 no frontier", Scenes::bare, x -> x.tell(0), UNKNOWN);
    }

    static void promise29LeastAndGreatest() {
        QuietDuty x = Scenes.by("u0;10,s11,k11,h11");
        is("29 silence", x.tell(0), 1);
        is("29 kept", x.tell(1), 101);
        is("29 held", x.tell(2), 102);
        QuietDuty y = Scenes.by("u0;10,s91,k91,h91");
        is("29 silence", y.tell(0), 9);
        is("29 kept", y.tell(1), 109);
        is("29 held", y.tell(2), 118);
    }

    static void promise29BodiesInTheirOrder() {
        int[][] bodies = {{1}, {2, 1}, {3, 2, 1, 1}};
        for (int k = 0; k < 3; k++) {
            QuietDuty x = Scenes.by("u0;10,s42,k31,h51");
            x.tell(k);
            is("29 kind " + k, x.trace(), traceOf(bodies[k]));
        }
    }

    private static int traceOf(int... bodies) {
        int trace = 0;
        for (int body : bodies) {
            trace = 31 * trace + body;
        }
        return trace;
    }

    static void promise30NoSuchSilence() {
        for (int k : new int[] {-1, 4, LOW, HIGH}) {
            Bounds.leaves("30 silence " + k, Scenes::full, x -> x.hush(k), UNKNOWN);
        }
        Bounds.leaves("30 of two", () -> Scenes.by(Scenes.text(1, 2)), x -> x.hush(2), UNKNOWN);
        Bounds.leaves("30 no frontier", Scenes::bare, x -> x.hush(0), UNKNOWN);
    }

    static void promise30NumbersFrom0To3() {
        QuietDuty x = Scenes.by("u0;10,s42,k31,s51,k98");
        for (int k = 0; k < 4; k++) {
            is("30 lent", x.hush(k), k);
        }
        is("30 bodies", x.trace(), traceOf(4, 4, 4, 4));
        QuietDuty y = Scenes.by("u0;10,h42,h31,h51,h98");
        for (int k = 0; k < 4; k++) {
            is("30 its own", y.hush(k), 80);
        }
        is("30 bodies", y.trace(), traceOf(5, 5, 5, 5));
    }

    // ---- 31 as

    static void promise31NoSuchSilence() {
        for (int k : new int[] {-1, 4, LOW, HIGH}) {
            Bounds.refused("31 silence " + k, Scenes::full, x -> x.as(k, 0), UNKNOWN);
        }
        Bounds.refused("31 of two", () -> Scenes.by(Scenes.text(1, 2)), x -> x.as(2, 0), UNKNOWN);
        Bounds.refused("31 no frontier", Scenes::bare, x -> x.as(0, 0), UNKNOWN);
    }

    static void promise31KindIsOneOf0To2() {
        for (int kind : new int[] {-1, 3, LOW, HIGH}) {
            Bounds.refused("31 kind " + kind, Scenes::full, x -> x.as(2, kind), OUTSIDE);
            Bounds.refused("31 a plain one as kind " + kind, Scenes::full, x -> x.as(3, kind), OUTSIDE);
        }
    }

    static void promise31UnknownIsToldAheadOfOutside() {
        Bounds.refused("31 both", Scenes::full, x -> x.as(4, 3), UNKNOWN);
        Bounds.refused("31 both", Scenes::full, x -> x.as(-1, -1), UNKNOWN);
        Bounds.refused("31 both, no frontier", Scenes::bare, x -> x.as(0, 3), UNKNOWN);
    }

    static void promise31ItIsNoneOfThatKind() {
        Bounds.refused("31 a plain one is no kept one", Scenes::full, x -> x.as(0, 1), BY_CAST);
        Bounds.refused("31 a plain one is no held one", Scenes::full, x -> x.as(3, 2), BY_CAST);
        Bounds.refused("31 a kept one is no held one", Scenes::full, x -> x.as(1, 2), BY_CAST);
    }

    static void promise31ItIsOneOfThatKind() {
        int[][] kinds = {{0, 0}, {1, 0}, {1, 1}, {2, 0}, {2, 1}, {2, 2}, {3, 0}};
        for (int[] at : kinds) {
            Bounds.leaves("31 silence " + at[0] + " as " + at[1], Scenes::full, x -> x.as(at[0], at[1]), 1, 0);
        }
    }

    // ---- 32, 33, 34 trace, fault, many

    static void promise32WrapsAround() {
        QuietDuty x = Scenes.by("u0;10,h42");
        long exact = 0;
        for (int body = 1; body <= 6; body++) {
            x.hush(0);
            exact = 31 * exact + 5;
            is("32 it fits still", x.trace(), exact);
        }
        x.hush(0);
        exact = 31 * exact + 5;
        Bounds.DUE.holds("32 it fits no more", exact > HIGH);
        is("32 it wraps", x.trace(), exact - (1L << 32));
        for (int more = 0; more < 200; more++) {
            x.hush(0);
        }
        is("32 it goes on wrapping", x.trace(), wrapped(207));
    }

    private static int wrapped(int bodies) {
        java.math.BigInteger trace = java.math.BigInteger.ZERO;
        for (int body = 0; body < bodies; body++) {
            trace = trace.multiply(java.math.BigInteger.valueOf(31)).add(java.math.BigInteger.valueOf(5));
        }
        return trace.intValue();
    }

    static void promise32StartsAt0AndStays() {
        is("32 at first", new QuietDuty().trace(), 0);
        Bounds.leaves("32 told", Scenes::full, QuietDuty::trace, traceOf(3, 2, 1, 1, 4));
    }

    static void promise33ZeroAheadOfAny() {
        is("33 new", new QuietDuty().fault(), 0);
        QuietDuty x = new QuietDuty();
        x.lose(4);
        x.duty(9);
        x.cell(9, 9, 9);
        is("33 refused alone", x.fault(), 0);
    }

    static void promise33EachFault() {
        QuietDuty x = Scenes.full();
        x.put(3, 0, 0);
        is("33 null", x.fault(), 1);
        x.cell(0, 0, 1);
        is("33 cast", x.fault(), 2);
        x.copy(0, 0, 0, 0, 61);
        is("33 index", x.fault(), 3);
        x.sheet(0, 0, -1);
        is("33 size", x.fault(), 4);
        is("33 told again", x.fault(), 4);
    }

    static void promise33NoneWhereItCameToNone() {
        cameToNone("frontier", x -> x.frontier(3, 2, 0, 0));
        cameToNone("cost", x -> x.cost(0, 0, 0, 1, 0));
        cameToNone("say", x -> x.say(0, 0, 0, 1));
        cameToNone("worth", x -> x.worth(0, 0, 0, 0, 1));
        cameToNone("sheet", x -> x.sheet(3, 0, 1));
        cameToNone("put", x -> x.put(0, 0, 1));
        cameToNone("cell", x -> x.cell(0, 0, 0));
        cameToNone("copy", x -> x.copy(0, 0, 0, 1, 1));
        cameToNone("as", x -> x.as(0, 0));
    }

    private static void cameToNone(String name, ToLongFunction<QuietDuty> call) {
        QuietDuty x = Scenes.full();
        x.sheet(3, 2, 0);
        x.sheet(3, 2, -1);
        is("33 a fault ahead of " + name, x.fault(), 4);
        call.applyAsLong(x);
        is("33 none by " + name, x.fault(), 0);
    }

    static void promise33LatestCallThatNamesOne() {
        QuietDuty x = Scenes.full();
        x.sheet(0, 0, -1);
        x.duty(0);
        x.lose(9);
        x.tell(9);
        x.hum(9, 9);
        is("33 those name none", x.fault(), 4);
        x.cell(0, 0, 0);
        is("33 one that comes to none", x.fault(), 0);
        x.sheet(0, 0, -1);
        x.as(9, 9);
        is("33 one that is refused", x.fault(), 0);
    }

    static void promise34WhatIs0To4() {
        for (int what : new int[] {-1, 5, LOW, HIGH}) {
            Bounds.leaves("34 what " + what, Scenes::full, x -> x.many(what), OUTSIDE);
            Bounds.leaves("34 no frontier, what " + what, QuietDuty::new, x -> x.many(what), OUTSIDE);
        }
        int[] want = {4, 4, 2, 5, 8};
        for (int w = 0; w < 5; w++) {
            int what = w;
            Bounds.leaves("34 what " + what, Scenes::full, x -> x.many(what), want[what]);
        }
    }

    static void promise34WithoutAFrontier() {
        for (int w = 0; w < 5; w++) {
            int what = w;
            Bounds.leaves("34 what " + what, QuietDuty::new, x -> x.many(what), 0);
            Bounds.leaves("34 what " + what, Scenes::bare, x -> x.many(what), 0);
            Bounds.leaves("34 by a text not taken, what " + what, Part5Bounds::withTextNotTaken, x -> x.many(what), 0);
        }
    }

    private static QuietDuty withTextNotTaken() {
        QuietDuty x = Scenes.bare();
        Due.read(x, "u5;12;29,s42,k3");
        x.lose(3);
        return x;
    }

    static void promise34LeastAndGreatest() {
        int[] least = {1, 1, 0, 7, 0};
        int[] most = {4, 4, 9, 7, 0};
        for (int what = 0; what < 5; what++) {
            is("34 least", Scenes.by("u0;10,s11").many(what), least[what]);
            is("34 most", Scenes.by("u9;99;99;99;99,h99,h99,h99,h99").many(what), most[what]);
        }
    }

    private Part5Bounds() {
    }
}
