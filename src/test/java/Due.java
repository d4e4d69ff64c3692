/** Compares answers with what is due, and tells each that is wrong. */
final class Due {
    private int wrong = 0;
    private int asked = 0;

    void is(String call, long got, long want) {
        asked++;
        if (got != want) {
            wrong++;
            System.out.println(call + " answered " + got + ", due is " + want);
        }
    }

    void holds(String what, boolean does) {
        is(what, does ? 1 : 0, 1);
    }

    int wrong() {
        return wrong;
    }

    /** Ends the program with exit code 1 if an answer was wrong. */
    void end() {
        System.out.println(asked + " answers, " + wrong + " of them wrong");
        if (wrong != 0) {
            System.exit(1);
        }
    }

    /** A row of numbers in a SHEET of a LANE. */
    static void row(QuietDuty x, int sheet, int lane, int... numbers) {
        x.sheet(sheet, lane, numbers.length);
        for (int i = 0; i < numbers.length; i++) {
            x.put(sheet, i, numbers[i]);
        }
    }

    /** Gives a text to frontier by way of SHEET 3, as bytes. */
    static int read(QuietDuty x, String text) {
        row(x, 3, 0, text.chars().toArray());
        return x.frontier(3, 0, 0, text.length());
    }

    /** A new object with a FRONTIER by a text. */
    static QuietDuty at(String text) {
        QuietDuty x = new QuietDuty();
        read(x, text);
        return x;
    }
}
