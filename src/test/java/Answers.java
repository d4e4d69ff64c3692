import java.util.ArrayList;
import java.util.List;

/**
 * All that later calls answer, but for fault(), in the order asked. Some of it can only be seen by
 * changing it (who hums, what was read), so an object is of no use behind it. Far below 512 calls.
 * Backward the last is asked first: what the asking itself would change can't hide in both orders.
 */
final class Answers {
    private static final int CELLS = 12;

    private final QuietDuty x;
    private final boolean backward;
    private final List<String> told = new ArrayList<>();

    private Answers(QuietDuty x, boolean backward) {
        this.x = x;
        this.backward = backward;
    }

    static List<String> of(QuietDuty x, boolean backward) {
        Answers all = new Answers(x, backward);
        int groups = 6;
        for (int g = 0; g < groups; g++) {
            all.group(backward ? groups - 1 - g : g);
        }
        all.nextFrontier();
        return all.told;
    }

    private void group(int g) {
        switch (g) {
            case 0: counts(); break;
            case 1: frontier(); break;
            case 2: sheets(); break;
            case 3: ways(); break;
            case 4: readings(); break;
            default: hums(); break;
        }
    }

    private void tell(String call, long answer) {
        told.add(call + " = " + answer);
    }

    private void counts() {
        tell("trace()", x.trace());
        for (int what = 0; what < 5; what++) {
            tell("many(" + what + ")", x.many(what));
        }
    }

    private void frontier() {
        for (int p = 0; p < 4; p++) {
            tell("ofPost(" + p + ", 0)", x.ofPost(p, 0));
            tell("ofPost(" + p + ", 1)", x.ofPost(p, 1));
            tell("duty(" + p + ")", x.duty(p));
            tell("clear(" + p + ", 0)", x.clear(p, 0));
            tell("clear(" + p + ", 1)", x.clear(p, 1));
        }
        for (int k = 0; k < 4; k++) {
            for (int what = 0; what < 8; what++) {
                tell("ofSilence(" + k + ", " + what + ")", x.ofSilence(k, what));
            }
        }
    }

    private void sheets() {
        for (int s = 0; s < 4; s++) {
            int k = backward ? 3 - s : s;
            for (int lane = 0; lane < 3; lane++) {
                tell("cell(" + k + ", 0, " + lane + ")", x.cell(k, 0, lane));
                int fault = x.fault();
                tell("its fault()", fault);
                for (int i = 1; i < CELLS && fault == 0; i++) {
                    tell("cell(" + k + ", " + i + ", " + lane + ")", x.cell(k, i, lane));
                }
            }
        }
    }

    /** The ways are in sheet 3, which has told its cells already or is told to have lost them. */
    private void ways() {
        tell("lose(3)", x.lose(3));
        x.sheet(3, 2, 4);
        for (int p = 0; p < 4; p++) {
            x.put(3, p, p);
        }
        int n = Math.min(4, Math.max(0, x.many(1)));
        tell("cost, upper", x.cost(3, 2, 0, n, 0));
        tell("cost, lower", x.cost(3, 2, 0, n, 1));
        tell("say", x.say(3, 2, 0, n));
        for (int k = -1; k < 4; k++) {
            tell("pack(" + k + ")", x.pack(k));
            tell("worth(" + k + ")", x.worth(k, 3, 2, 0, n));
        }
        tell("road()", x.road());
        tell("odds(0, 100, 0)", x.odds(0, 100, 0));
        tell("odds(0, 100, 1)", x.odds(0, 100, 1));
    }

    /** Takes them back one by one: each is told by what was possible with it and is without it. */
    private void readings() {
        for (int left = 0; left <= 8; left++) {
            tell("said(0)", x.said(0));
            tell("said(1)", x.said(1));
            tell("frees()", x.frees());
            tell("laws()", x.laws());
            tell("kinds(0)", x.kinds(0));
            tell("back(1)", x.back(1));
        }
    }

    private void hums() {
        for (int who = 0; who < 3; who++) {
            tell("hum(" + who + ", 0)", x.hum(who, 0));
        }
    }

    /** Nothing of what was ahead of a TEXT stays, but for SHEETS and TRACE. */
    private void nextFrontier() {
        tell("the next text", Due.read(x, Scenes.LONGEST));
        for (int k = 0; k < 4; k++) {
            tell("its ofSilence(" + k + ", 3)", x.ofSilence(k, 3));
            tell("its ofSilence(" + k + ", 5)", x.ofSilence(k, 5));
            tell("its ofSilence(" + k + ", 6)", x.ofSilence(k, 6));
        }
        tell("its duty(0)", x.duty(0));
        tell("its said(0)", x.said(0));
        tell("its trace()", x.trace());
    }
}
