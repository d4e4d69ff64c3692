/**
 * Objects to try calls on. In all but a new one SHEETS 0, 1, 2 have the cells of CELLS as a row of
 * LANE 0, 1, 2, and SHEET 3 has nothing.
 */
final class Scenes {
    /** The first eight are a WAY of four POSTS there and back, the last two are no POSTS. */
    private static final int[] CELLS = {0, 1, 2, 3, 3, 2, 1, 0, 4, -1};
    static final int SIZE = CELLS.length;
    static final String LONGEST = "u5;12;29;90;47,s42,k31,h59,s98";

    /** No FRONTIER. */
    static QuietDuty bare() {
        QuietDuty x = new QuietDuty();
        for (int k = 0; k < 3; k++) {
            Due.row(x, k, k, CELLS);
        }
        return x;
    }

    /** As a TEXT makes it. */
    static QuietDuty by(String text) {
        QuietDuty x = bare();
        Due.read(x, text);
        x.lose(3);
        return x;
    }

    /** Four POSTS, four SILENCES, eight READINGS, and nothing that can be set is as the TEXT made it. */
    static QuietDuty full() {
        QuietDuty x = half();
        fill(x);
        return x;
    }

    /** The same with three READINGS. */
    static QuietDuty half() {
        QuietDuty x = by(LONGEST);
        set(x);
        return x;
    }

    /** The same as full, but for TRACE, where another FRONTIER was set and read as much ahead of it. */
    static QuietDuty fullTwice() {
        QuietDuty x = full();
        Due.read(x, LONGEST);
        x.lose(3);
        set(x);
        fill(x);
        return x;
    }

    private static void set(QuietDuty x) {
        x.free(2);
        x.law(5);
        x.carry(1, 1);
        x.carry(3, 2);
        x.declare(0, false);
        x.hum(0, 1);
        x.hum(1, 2);
        x.hum(2, 3);
        x.tell(2);
        x.hush(0);
        x.reading(0, 116);
        x.reading(1, 232);
        x.reading(2, 1044);
    }

    private static void fill(QuietDuty x) {
        int[] duty = {116, 232, 1044, 464};
        for (int r = 3; r < 7; r++) {
            x.reading(r % 4, duty[r % 4]);
        }
        x.reading(0, 99999);
    }

    /** A FRONTIER of so many POSTS and SILENCES. */
    static String text(int posts, int silences) {
        return LONGEST.substring(0, 2 + 3 * posts) + LONGEST.substring(14, 14 + 4 * silences);
    }

    private Scenes() {
    }
}
