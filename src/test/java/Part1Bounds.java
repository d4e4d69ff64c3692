import java.util.List;
import java.util.function.Supplier;

/** The boundary cases of part 1, the frontier: a method for each sentence, named after its promise. */
final class Part1Bounds {
    private static final int UNKNOWN = Bounds.UNKNOWN, OUTSIDE = Bounds.OUTSIDE, STATE = Bounds.STATE;
    private static final int LOW = Bounds.LOW, HIGH = Bounds.HIGH;
    private static final String LONGEST = Scenes.LONGEST;

    private static void is(String told, long got, long want) {
        Bounds.is(told, got, want);
    }

    // ---- 1 A new object

    static void promise01NoPosts() {
        for (int p : new int[] {-1, 0, 3, 4}) {
            Bounds.leaves("1 ofPost", QuietDuty::new, x -> x.ofPost(p, 0), UNKNOWN);
            Bounds.leaves("1 duty", QuietDuty::new, x -> x.duty(p), UNKNOWN);
            Bounds.leaves("1 clear", QuietDuty::new, x -> x.clear(p, 0), Bounds.LOST);
            Bounds.leaves("1 reading", QuietDuty::new, x -> x.reading(p, 0), UNKNOWN);
            Bounds.leaves("1 odds", QuietDuty::new, x -> x.odds(p, 0, 0), Bounds.LOST);
        }
    }

    static void promise01NoSilences() {
        for (int k : new int[] {-1, 0, 3, 4}) {
            Bounds.leaves("1 ofSilence", QuietDuty::new, x -> x.ofSilence(k, 0), UNKNOWN);
            Bounds.leaves("1 carry", QuietDuty::new, x -> x.carry(k, 0), UNKNOWN);
            Bounds.leaves("1 declare", QuietDuty::new, x -> x.declare(k, false), UNKNOWN);
            Bounds.leaves("1 kinds", QuietDuty::new, x -> x.kinds(k), UNKNOWN);
            Bounds.leaves("1 tell", QuietDuty::new, x -> x.tell(k), UNKNOWN);
            Bounds.leaves("1 hush", QuietDuty::new, x -> x.hush(k), UNKNOWN);
            Bounds.refused("1 as", QuietDuty::new, x -> x.as(k, 0), UNKNOWN);
            Bounds.lost("1 worth", QuietDuty::new, x -> x.worth(k, 0, 0, 0, 0), UNKNOWN);
        }
    }

    static void promise01SheetsHaveNothing() {
        for (int k = 0; k < 4; k++) {
            int sheet = k;
            Bounds.refused("1 put", QuietDuty::new, x -> x.put(sheet, 0, 0), Bounds.BY_NULL);
            Bounds.refused("1 copy", QuietDuty::new, x -> x.copy(sheet, 0, sheet, 0, 0), Bounds.BY_NULL);
            Bounds.leaves("1 lose", QuietDuty::new, x -> x.lose(sheet), 0);
            for (int lane = 0; lane < 3; lane++) {
                int as = lane;
                Bounds.lost("1 cell", QuietDuty::new, x -> x.cell(sheet, 0, as), Bounds.BY_NULL);
                Bounds.refused("1 frontier", QuietDuty::new, x -> x.frontier(sheet, as, 0, 0), Bounds.BY_NULL);
            }
        }
    }

    static void promise01NothingIsCountedTracedOrFaulted() {
        QuietDuty x = new QuietDuty();
        is("1 fault", x.fault(), 0);
        is("1 trace", x.trace(), 0);
        for (int what = 0; what < 5; what++) {
            is("1 many " + what, x.many(what), 0);
        }
    }

    static void promise01TwoObjectsAreApart() {
        QuietDuty x = Scenes.full();
        QuietDuty y = new QuietDuty();
        is("1 silences of another", y.many(0), 0);
        is("1 its trace", y.trace(), 0);
        is("1 its sheets", y.lose(0), 0);
        is("1 its hums", Scenes.by(LONGEST).hum(0, 0), 0);
        is("1 of the first", x.many(0), 4);
    }

    /** What is behind the 512th call is free, but not what it answers itself. */
    static void promise01TheLast512thCall() {
        QuietDuty x = Scenes.by(LONGEST);
        x.sheet(0, 2, 60);
        int made = 3 * (1 + Scenes.SIZE) + 1 + LONGEST.length() + 2 + 1;
        for (int call = made; call < 511; call++) {
            is("1 call " + call, x.put(0, call % 60, call), 1);
        }
        is("1 the 512th", x.duty(0), 320);
    }

    // ---- 2 frontier: what is refused, and the FAULTS

    private static QuietDuty withText(int sheet, int lane, String text) {
        QuietDuty x = new QuietDuty();
        Due.row(x, sheet, lane, text.chars().toArray());
        return x;
    }

    static void promise02SheetIsOneOf0To3() {
        for (int k : new int[] {-1, 4, LOW, HIGH}) {
            Bounds.refused("2 sheet " + k, Scenes::full, x -> x.frontier(k, 0, 0, 1), UNKNOWN);
            Bounds.refused("2 sheet " + k, QuietDuty::new, x -> x.frontier(k, 0, 0, 1), UNKNOWN);
        }
        for (int k = 0; k < 4; k++) {
            is("2 sheet " + k, withText(k, 0, LONGEST).frontier(k, 0, 0, LONGEST.length()), 4);
        }
    }

    static void promise02LaneIsOneOf0To2() {
        for (int lane : new int[] {-1, 3, LOW, HIGH}) {
            Bounds.refused("2 lane " + lane, Scenes::full, x -> x.frontier(0, lane, 0, 1), OUTSIDE);
        }
        for (int lane = 0; lane < 3; lane++) {
            is("2 lane " + lane, withText(1, lane, LONGEST).frontier(1, lane, 0, LONGEST.length()), 4);
        }
    }

    static void promise02UnknownIsToldAheadOfOutside() {
        Bounds.refused("2 sheet and lane", Scenes::full, x -> x.frontier(4, 3, -1, -1), UNKNOWN);
        Bounds.refused("2 sheet and lane", Scenes::full, x -> x.frontier(-1, -1, 0, 1), UNKNOWN);
    }

    static void promise02OutsideIsToldAheadOfFaults() {
        Bounds.refused("2 lane, of nothing", Scenes::full, x -> x.frontier(3, 3, 0, 1), OUTSIDE);
        Bounds.refused("2 lane and n", Scenes::full, x -> x.frontier(0, 3, 0, -1), OUTSIDE);
        Bounds.refused("2 lane and i", Scenes::full, x -> x.frontier(0, -1, -1, 1), OUTSIDE);
    }

    static void promise02AnotherLaneIsACast() {
        for (int k = 0; k < 3; k++) {
            int sheet = k;
            for (int other = 1; other < 3; other++) {
                int lane = (k + other) % 3;
                Bounds.refused("2 cast", Scenes::full, x -> x.frontier(sheet, lane, 0, 1), Bounds.BY_CAST);
                Bounds.refused("2 cast of no cells", Scenes::full, x -> x.frontier(sheet, lane, 0, 0), Bounds.BY_CAST);
                Bounds.refused("2 ahead of size", Scenes::full, x -> x.frontier(sheet, lane, 0, -1), Bounds.BY_CAST);
                Bounds.refused("2 ahead of index", Scenes::full, x -> x.frontier(sheet, lane, -1, 1), Bounds.BY_CAST);
            }
        }
    }

    static void promise02NothingIsNullAndNoCast() {
        for (int k = 0; k < 3; k++) {
            int lane = k;
            Bounds.refused("2 null", Scenes::full, x -> x.frontier(3, lane, 0, 1), Bounds.BY_NULL);
            Bounds.refused("2 null of no cells", Scenes::full, x -> x.frontier(3, lane, 0, 0), Bounds.BY_NULL);
            Bounds.refused("2 ahead of size", Scenes::full, x -> x.frontier(3, lane, 0, -1), Bounds.BY_NULL);
            Bounds.refused("2 ahead of index", Scenes::full, x -> x.frontier(3, lane, -1, 1), Bounds.BY_NULL);
        }
    }

    static void promise02LengthBelow0IsSize() {
        Bounds.refused("2 size", Scenes::full, x -> x.frontier(0, 0, 0, -1), Bounds.BY_SIZE);
        Bounds.refused("2 size", Scenes::full, x -> x.frontier(0, 0, 0, LOW), Bounds.BY_SIZE);
        Bounds.refused("2 size ahead of index", Scenes::full, x -> x.frontier(1, 1, -1, -1), Bounds.BY_SIZE);
        Bounds.refused("2 size ahead of index", Scenes::full, x -> x.frontier(2, 2, HIGH, -1), Bounds.BY_SIZE);
        Bounds.refused("2 0 is no size", Scenes::full, x -> x.frontier(0, 0, 0, 0), -100);
    }

    static void promise02CellsAreWithinTheRow() {
        int size = Scenes.SIZE;
        int[][] beyond = {{-1, 0}, {-1, 1}, {LOW, 0}, {LOW, HIGH}, {size, 1}, {size + 1, 0}, {1, size}, {0, size + 1},
            {0, HIGH}, {1, HIGH}, {HIGH, 0}, {HIGH, 1}, {HIGH, HIGH}};
        for (int lane = 0; lane < 3; lane++) {
            int k = lane;
            for (int[] at : beyond) {
                Bounds.refused("2 index " + at[0] + ", " + at[1], Scenes::full, x -> x.frontier(k, k, at[0], at[1]),
                    Bounds.BY_INDEX);
            }
            Bounds.refused("2 at the end", Scenes::full, x -> x.frontier(k, k, size, 0), -100);
            Bounds.refused("2 the last cell", Scenes::full, x -> x.frontier(k, k, size - 1, 1), -100);
            Bounds.refused("2 all cells", Scenes::full, x -> x.frontier(k, k, 0, size), -100);
        }
        Supplier<QuietDuty> empty = () -> {
            QuietDuty x = Scenes.full();
            x.sheet(3, 0, 0);
            return x;
        };
        Bounds.refused("2 an empty row", empty, x -> x.frontier(3, 0, 0, 0), -100);
        Bounds.refused("2 an empty row", empty, x -> x.frontier(3, 0, 0, 1), Bounds.BY_INDEX);
        Bounds.refused("2 an empty row", empty, x -> x.frontier(3, 0, 1, 0), Bounds.BY_INDEX);
    }

    static void promise02TextEndsWhereItsCellsEnd() {
        String text = "11" + LONGEST + ",1";
        QuietDuty x = withText(2, 1, text);
        is("2 n cells from i on", x.frontier(2, 1, 2, LONGEST.length()), 4);
        is("2 one more", x.frontier(2, 1, 2, LONGEST.length() + 1), -130);
        is("2 from one ahead", x.frontier(2, 1, 1, LONGEST.length()), -100);
        is("2 from one behind", x.frontier(2, 1, 3, LONGEST.length()), -100);
        is("2 all but the last", x.frontier(2, 1, 2, LONGEST.length() - 1), -129);
        is("2 the last silence left out", x.frontier(2, 1, 2, LONGEST.length() - 4), 3);
        x.sheet(2, 1, 60);
        for (int i = 0; i < LONGEST.length(); i++) {
            x.put(2, 60 - LONGEST.length() + i, LONGEST.charAt(i));
        }
        is("2 up to the last cell of 60", x.frontier(2, 1, 60 - LONGEST.length(), LONGEST.length()), 4);
    }

    // ---- 2 frontier: the TEXT

    /** The codes with which a TEXT may go on behind the first place codes of LONGEST. */
    private static String goesOn(int place) {
        if (place < 2) {
            return place == 0 ? "u" : "0123456789";
        }
        if (place < 14) {
            int part = (place - 2) % 3;
            return part == 0 ? place == 2 ? ";" : ";," : part == 1 ? "123456789" : "0123456789";
        }
        int part = (place - 14) % 4;
        return place == 30 ? "" : part == 0 ? "," : part == 1 ? "skh" : "123456789";
    }

    /** What is due for the first place codes of LONGEST and one more. */
    private static int dueOf(int place, int code) {
        if (code < 0 || code > 127 || goesOn(place).indexOf(code) < 0) {
            return -100 - place;
        }
        boolean isWhole = place >= 17 && (place - 17) % 4 == 0;
        return isWhole ? (place - 13) / 4 : -101 - place;
    }

    private static void eachCodeAt(int place, int lane, int from, int to) {
        QuietDuty x = new QuietDuty();
        Due.row(x, 0, lane, (LONGEST + "?").chars().toArray());
        for (int v = from; v < to; v++) {
            x.put(0, place, v);
            int code = lane == 0 ? (byte) v : lane == 1 ? (short) v : v;
            is("2 lane " + lane + ", at " + place + " code " + v, x.frontier(0, lane, 0, place + 1), dueOf(place, code));
        }
    }

    static void promise02EveryCodeAtEveryPlace() {
        for (int place = 0; place <= LONGEST.length(); place++) {
            for (int lane = 0; lane < 3; lane++) {
                eachCodeAt(place, lane, -130, 0);
                eachCodeAt(place, lane, 0, 130);
                eachCodeAt(place, lane, 256, 386);
                eachCodeAt(place, lane, 65536, 65666);
                eachCodeAt(place, lane, LOW, LOW + 130);
            }
        }
    }

    static void promise02TextThatEndsTooSoon() {
        for (int n = 0; n < LONGEST.length(); n++) {
            int codes = n;
            boolean isWhole = n >= 18 && (n - 18) % 4 == 0;
            if (!isWhole) {
                Supplier<QuietDuty> scene = () -> beside(Scenes.full(), LONGEST.substring(0, codes));
                Bounds.refused("2 ends behind " + n, scene, x -> x.frontier(3, 0, 0, codes), -100 - n);
            }
        }
    }

    private static QuietDuty beside(QuietDuty x, String text) {
        Due.row(x, 3, 0, text.chars().toArray());
        return x;
    }

    private static void notTaken(String text, int place) {
        Supplier<QuietDuty> scene = () -> beside(Scenes.full(), text);
        Bounds.refused("2 " + text, scene, x -> x.frontier(3, 0, 0, text.length()), -100 - place);
    }

    static void promise02PostsAre1To4() {
        notTaken("u5,s42", 2);
        notTaken("u5;12;29;90;47;11,s42", 14);
        notTaken("u5;12;29;90;47;", 14);
        for (int posts = 1; posts <= 4; posts++) {
            is("2 posts", Scenes.by(Scenes.text(posts, 1)).many(1), posts);
        }
    }

    static void promise02SilencesAre1To4() {
        notTaken("u5;12", 5);
        notTaken("u5;12;29;90;47", 14);
        notTaken("u5;12,s42,k31,h59,s98,s11", 21);
        notTaken("u5;12,s42,k31,h59,s98,", 21);
        for (int silences = 1; silences <= 4; silences++) {
            QuietDuty x = new QuietDuty();
            is("2 how many silences", Due.read(x, Scenes.text(1, silences)), silences);
            is("2 silences", x.many(0), silences);
        }
    }

    static void promise02FirstOfSeveralFaults() {
        notTaken("xx", 0);
        notTaken("u5;02,x00", 3);
        notTaken("u5;12;29,x00;", 9);
        notTaken("u5;12,s02;;;;;", 7);
        notTaken("u5;12,s42;29,k31", 9);
        notTaken("u5;12,s42,k3", 12);
    }

    static void promise02LeastAndGreatestDigits() {
        QuietDuty x = new QuietDuty();
        is("2 least", Due.read(x, "u0;10,s11"), 1);
        is("2 free", x.many(2), 0);
        is("2 rate", x.ofPost(0, 0), 1);
        is("2 ear", x.ofPost(0, 1), 0);
        is("2 long", x.ofSilence(0, 1), 1);
        is("2 fine", x.ofSilence(0, 2), 1);
        is("2 greatest", Due.read(x, "u9;99,s99"), 1);
        is("2 free", x.many(2), 9);
        is("2 rate", x.ofPost(0, 0), 9);
        is("2 ear", x.ofPost(0, 1), 9);
        is("2 long", x.ofSilence(0, 1), 9);
        is("2 fine", x.ofSilence(0, 2), 9);
    }

    /** All that later calls answer is then as with a new object that has the same SHEETS, but for TRACE. */
    private static void isAllAnew(Supplier<QuietDuty> scene, String text) {
        QuietDuty x = beside(scene.get(), text);
        QuietDuty other = beside(Scenes.bare(), text);
        int silences = (text.length() - text.indexOf(',')) / 4;
        is("2 taken", x.frontier(3, 0, 0, text.length()), silences);
        is("2 taken", other.frontier(3, 0, 0, text.length()), silences);
        List<String> got = Answers.of(x, false);
        List<String> want = Answers.of(other, false);
        got.removeIf(answer -> answer.contains("trace()"));
        want.removeIf(answer -> answer.contains("trace()"));
        Bounds.DUE.holds("2 all anew by " + text, got.equals(want));
    }

    static void promise02TakenTextMakesAllAnew() {
        for (String text : new String[] {"u0;10,s11", "u5;12;29,s42,k31", LONGEST, "u9;99;99;99;99,h99,k99,s99,h99"}) {
            isAllAnew(Scenes::full, text);
            isAllAnew(Scenes::fullTwice, text);
        }
    }

    static void promise02NothingIsLeftOfATextThatWasNotTaken() {
        for (String text : new String[] {"u0;10,s11", "u5;12;29,s42,k31", "u9;99;99;99;99,h99,k99,s99,h99"}) {
            isAllAnew(Part1Bounds::behindATextNotTaken, text);
        }
    }

    static void promise02NothingIsLeftOfWhatWasRefusedAheadOfAFrontier() {
        isAllAnew(Part1Bounds::refusedAheadOfAFrontier, LONGEST);
    }

    private static QuietDuty refusedAheadOfAFrontier() {
        QuietDuty x = Scenes.bare();
        long[] answers = {x.free(1), x.law(2), x.hum(1, 1), x.pack(-1), x.pack(0), x.road(), x.said(0), x.said(1),
            x.frees(), x.laws(), x.say(0, 0, 0, 1)};
        for (long answer : answers) {
            is("2 state", answer, STATE);
        }
        long[] others = {x.carry(0, 1), x.declare(0, false), x.reading(0, 5), x.kinds(0), x.tell(0), x.hush(0),
            x.as(0, 0), x.duty(0)};
        for (long answer : others) {
            is("2 unknown", answer, UNKNOWN);
        }
        return x;
    }

    private static QuietDuty behindATextNotTaken() {
        QuietDuty x = Scenes.full();
        Due.read(x, "u7;88;88;88,k77,h66,k55,x");
        return x;
    }

    static void promise02TakenTextTwice() {
        QuietDuty x = Scenes.bare();
        is("2 the longest", Due.read(x, LONGEST), 4);
        is("2 the shortest", Due.read(x, "u0;10,s11"), 1);
        is("2 no other post", x.ofPost(1, 0), UNKNOWN);
        is("2 no other silence", x.ofSilence(1, 0), UNKNOWN);
        is("2 the longest", Due.read(x, LONGEST), 4);
        is("2 all declared", x.ofSilence(3, 6), 1);
        is("2 law", x.many(3), 7);
        is("2 the last post", x.ofPost(3, 0), 4);
    }

    static void promise02TraceStays() {
        QuietDuty x = Scenes.full();
        int trace = x.trace();
        Bounds.DUE.holds("2 a trace", trace != 0);
        is("2 taken", Due.read(x, LONGEST), 4);
        is("2 trace", x.trace(), trace);
    }

    static void promise02TakenTextComesToNoFault() {
        QuietDuty x = beside(Scenes.full(), LONGEST);
        x.sheet(0, 0, -1);
        is("2 a fault ahead", x.fault(), 4);
        is("2 taken", x.frontier(3, 0, 0, LONGEST.length()), 4);
        is("2 fault", x.fault(), 0);
    }

    // ---- 3, 4 of a POST, of a SILENCE

    static void promise03PostsAreNumberedFrom0On() {
        for (int posts = 1; posts <= 4; posts++) {
            String text = Scenes.text(posts, 1);
            for (int p : new int[] {-1, posts, posts + 1, LOW, HIGH}) {
                Bounds.leaves("3 no post", () -> Scenes.by(text), x -> x.ofPost(p, 0), UNKNOWN);
            }
            QuietDuty x = Scenes.by(text);
            is("3 the first one's rate", x.ofPost(0, 0), 1);
            is("3 the first one's ear", x.ofPost(0, 1), 2);
            is("3 the last one's rate", x.ofPost(posts - 1, 0), new int[] {1, 2, 9, 4}[posts - 1]);
            is("3 the last one's ear", x.ofPost(posts - 1, 1), new int[] {2, 9, 0, 7}[posts - 1]);
        }
    }

    static void promise03WhatIs0Or1() {
        for (int what : new int[] {-1, 2, LOW, HIGH}) {
            Bounds.leaves("3 what " + what, Scenes::full, x -> x.ofPost(3, what), OUTSIDE);
        }
        Bounds.leaves("3 what 0", Scenes::full, x -> x.ofPost(3, 0), 4);
        Bounds.leaves("3 what 1", Scenes::full, x -> x.ofPost(3, 1), 7);
    }

    static void promise03UnknownIsToldAheadOfOutside() {
        Bounds.leaves("3 both", Scenes::full, x -> x.ofPost(4, 2), UNKNOWN);
        Bounds.leaves("3 both", Scenes::full, x -> x.ofPost(-1, -1), UNKNOWN);
    }

    static void promise04SilencesAreNumberedFrom0On() {
        for (int silences = 1; silences <= 4; silences++) {
            String text = Scenes.text(1, silences);
            for (int k : new int[] {-1, silences, silences + 1, LOW, HIGH}) {
                Bounds.leaves("4 no silence", () -> Scenes.by(text), x -> x.ofSilence(k, 1), UNKNOWN);
            }
            QuietDuty x = Scenes.by(text);
            is("4 the first one", x.ofSilence(0, 1), 4);
            is("4 the last one", x.ofSilence(silences - 1, 1), new int[] {4, 3, 5, 9}[silences - 1]);
        }
    }

    static void promise04WhatIs0To7() {
        for (int what : new int[] {-1, 8, LOW, HIGH}) {
            Bounds.leaves("4 what " + what, Scenes::full, x -> x.ofSilence(3, what), OUTSIDE);
        }
        int[] want = {2, 5, 9, 20, 100, 0, 1, 1};
        for (int w = 0; w < 8; w++) {
            int what = w;
            Bounds.leaves("4 what " + what, Scenes::full, x -> x.ofSilence(2, what), want[what]);
        }
    }

    static void promise04UnknownIsToldAheadOfOutside() {
        Bounds.leaves("4 both", Scenes::full, x -> x.ofSilence(4, 8), UNKNOWN);
        Bounds.leaves("4 both", Scenes::full, x -> x.ofSilence(-1, -1), UNKNOWN);
    }

    static void promise04LeastAndGreatestGradesAndWeights() {
        QuietDuty least = Scenes.by("u0;10,s11,k11,h11");
        QuietDuty most = Scenes.by("u0;10,s99,k99,h99");
        int[] leastGrade = {1, 2, 4};
        int[] mostGrade = {9, 10, 20};
        for (int k = 0; k < 3; k++) {
            is("4 kind", least.ofSilence(k, 0), k);
            is("4 least grade of kind " + k, least.ofSilence(k, 3), leastGrade[k]);
            is("4 least weight of kind " + k, least.ofSilence(k, 4), leastGrade[k]);
            is("4 greatest grade of kind " + k, most.ofSilence(k, 3), mostGrade[k]);
            is("4 greatest weight of kind " + k, most.ofSilence(k, 4), 9 * mostGrade[k]);
        }
    }

    /** Each SILENCE is DUTIABLE by the bit of its own kind alone, also where it is one of another kind too. */
    static void promise04DutiableByItsOwnKindAlone() {
        QuietDuty x = Scenes.by("u0;10,s11,k11,h11");
        for (int law = 0; law < 8; law++) {
            x.law(law);
            for (int k = 0; k < 3; k++) {
                is("4 kind " + k + " by law " + law, x.ofSilence(k, 7), law >> k & 1);
            }
        }
    }

    static void promise04CarrierAndDeclaredAsSet() {
        QuietDuty x = Scenes.full();
        int[] carrier = {0, 1, 0, 2};
        int[] declared = {0, 1, 1, 1};
        for (int k = 0; k < 4; k++) {
            is("4 carrier of " + k, x.ofSilence(k, 5), carrier[k]);
            is("4 declared " + k, x.ofSilence(k, 6), declared[k]);
        }
    }

    // ---- 5 to 9 what can be set

    static void promise05FreeIs0To9() {
        for (int v : new int[] {-1, 10, LOW, HIGH}) {
            Bounds.leaves("5 free " + v, Scenes::full, x -> x.free(v), OUTSIDE);
        }
        QuietDuty x = Scenes.full();
        is("5 the least", x.free(0), 2);
        is("5 it became", x.many(2), 0);
        is("5 the most", x.free(9), 0);
        is("5 it became", x.many(2), 9);
        is("5 the same again", x.free(9), 9);
    }

    static void promise05WithoutAFrontier() {
        for (int v : new int[] {0, 9}) {
            Bounds.leaves("5 state", QuietDuty::new, x -> x.free(v), STATE);
            Bounds.leaves("5 state", Scenes::bare, x -> x.free(v), STATE);
        }
    }

    static void promise05OutsideIsToldAheadOfState() {
        Bounds.leaves("5 both", QuietDuty::new, x -> x.free(-1), OUTSIDE);
        Bounds.leaves("5 both", QuietDuty::new, x -> x.free(10), OUTSIDE);
    }

    static void promise06LawIs0To7() {
        for (int v : new int[] {-1, 8, LOW, HIGH}) {
            Bounds.leaves("6 law " + v, Scenes::full, x -> x.law(v), OUTSIDE);
        }
        QuietDuty x = Scenes.full();
        is("6 the least", x.law(0), 5);
        is("6 it became", x.many(3), 0);
        is("6 the most", x.law(7), 0);
        is("6 it became", x.many(3), 7);
        is("6 the same again", x.law(7), 7);
    }

    static void promise06WithoutAFrontier() {
        for (int v : new int[] {0, 7}) {
            Bounds.leaves("6 state", QuietDuty::new, x -> x.law(v), STATE);
            Bounds.leaves("6 state", Scenes::bare, x -> x.law(v), STATE);
        }
    }

    static void promise06OutsideIsToldAheadOfState() {
        Bounds.leaves("6 both", QuietDuty::new, x -> x.law(-1), OUTSIDE);
        Bounds.leaves("6 both", QuietDuty::new, x -> x.law(8), OUTSIDE);
    }

    static void promise07NoSuchSilence() {
        for (int k : new int[] {-1, 4, LOW, HIGH}) {
            Bounds.leaves("7 silence " + k, Scenes::full, x -> x.carry(k, 2), UNKNOWN);
        }
        Bounds.leaves("7 of two", () -> Scenes.by(Scenes.text(4, 2)), x -> x.carry(2, 1), UNKNOWN);
        Bounds.leaves("7 no frontier", Scenes::bare, x -> x.carry(0, 1), UNKNOWN);
        QuietDuty x = Scenes.full();
        is("7 the first one", x.carry(0, 2), 0);
        is("7 the last one", x.carry(3, 0), 2);
        is("7 the first one", x.ofSilence(0, 5), 2);
        is("7 the last one", x.ofSilence(3, 5), 0);
        is("7 no other", x.ofSilence(1, 5), 1);
    }

    static void promise07NoSuchCarrier() {
        for (int who : new int[] {-1, 3, LOW, HIGH}) {
            Bounds.leaves("7 carrier " + who, Scenes::full, x -> x.carry(3, who), UNKNOWN);
        }
        Bounds.leaves("7 both", Scenes::full, x -> x.carry(4, 3), UNKNOWN);
        QuietDuty x = Scenes.full();
        is("7 the first", x.carry(3, 0), 2);
        is("7 the last", x.carry(3, 2), 0);
        is("7 it had it", x.carry(3, 2), 2);
    }

    static void promise08NoSuchSilence() {
        for (int k : new int[] {-1, 4, 32, LOW, HIGH}) {
            Bounds.leaves("8 silence " + k, Scenes::full, x -> x.declare(k, false), UNKNOWN);
            Bounds.leaves("8 silence " + k, Scenes::full, x -> x.declare(k, true), UNKNOWN);
        }
        Bounds.leaves("8 of two", () -> Scenes.by(Scenes.text(4, 2)), x -> x.declare(2, false), UNKNOWN);
        Bounds.leaves("8 no frontier", Scenes::bare, x -> x.declare(0, false), UNKNOWN);
        QuietDuty x = Scenes.full();
        is("8 the first one", x.declare(0, true), 1);
        is("8 the last one", x.declare(3, false), 1);
        is("8 the first one", x.ofSilence(0, 6), 1);
        is("8 the last one", x.ofSilence(3, 6), 0);
        is("8 no other", x.ofSilence(1, 6), 1);
    }

    static void promise08ItWasSo() {
        Bounds.leaves("8 not declared", Scenes::full, x -> x.declare(0, false), 0);
        Bounds.leaves("8 declared", Scenes::full, x -> x.declare(3, true), 0);
    }

    static void promise09NoSuchCarrier() {
        for (int who : new int[] {-1, 3, LOW, HIGH}) {
            Bounds.leaves("9 carrier " + who, Scenes::full, x -> x.hum(who, 5), UNKNOWN);
        }
        QuietDuty x = Scenes.full();
        is("9 the first", x.hum(0, 5), 1);
        is("9 the last", x.hum(2, 6), 3);
        is("9 the first", x.hum(0, 5), 5);
        is("9 the last", x.hum(2, 6), 6);
        is("9 no other", x.hum(1, 2), 2);
    }

    static void promise09HumIs0To9() {
        for (int v : new int[] {-1, 10, LOW, HIGH}) {
            Bounds.leaves("9 hum " + v, Scenes::full, x -> x.hum(2, v), OUTSIDE);
        }
        QuietDuty x = Scenes.full();
        is("9 the most", x.hum(2, 9), 3);
        is("9 the least", x.hum(2, 0), 9);
        is("9 it became", x.hum(2, 0), 0);
    }

    static void promise09WithoutAFrontier() {
        for (int who = 0; who < 3; who++) {
            int carrier = who;
            Bounds.leaves("9 state", QuietDuty::new, x -> x.hum(carrier, 0), STATE);
            Bounds.leaves("9 state", Scenes::bare, x -> x.hum(carrier, 9), STATE);
        }
        QuietDuty x = Scenes.bare();
        x.hum(1, 9);
        Due.read(x, LONGEST);
        is("9 refused", x.hum(1, 0), 0);
    }

    static void promise09UnknownThenOutsideThenState() {
        Bounds.leaves("9 unknown and outside", Scenes::full, x -> x.hum(3, 10), UNKNOWN);
        Bounds.leaves("9 all three", QuietDuty::new, x -> x.hum(-1, -1), UNKNOWN);
        Bounds.leaves("9 unknown and state", QuietDuty::new, x -> x.hum(3, 0), UNKNOWN);
        Bounds.leaves("9 outside and state", QuietDuty::new, x -> x.hum(2, 10), OUTSIDE);
        Bounds.leaves("9 outside and state", QuietDuty::new, x -> x.hum(0, -1), OUTSIDE);
    }

    private Part1Bounds() {
    }
}
