/** The boundary cases of part 4, what was paid: a method for each sentence, named after its promise. */
final class Part4Bounds {
    private static final int UNKNOWN = Bounds.UNKNOWN, OUTSIDE = Bounds.OUTSIDE, STATE = Bounds.STATE;
    private static final int NONE = Bounds.NONE, LOW = Bounds.LOW, HIGH = Bounds.HIGH;
    private static final long LOST = Bounds.LOST;

    private static void is(String told, long got, long want) {
        Bounds.is(told, got, want);
    }

    private static QuietDuty by(String text, int... readings) {
        QuietDuty x = Scenes.by(text);
        for (int r = 0; r < readings.length; r += 2) {
            x.reading(readings[r], readings[r + 1]);
        }
        return x;
    }

    // ---- 17 reading

    static void promise17NoSuchPost() {
        for (int p : new int[] {-1, 4, LOW, HIGH}) {
            Bounds.leaves("17 post " + p, Scenes::half, x -> x.reading(p, 5), UNKNOWN);
        }
        for (int posts = 1; posts < 4; posts++) {
            int beyond = posts;
            Bounds.leaves("17 one of " + posts, () -> Scenes.by(Scenes.text(beyond, 1)), x -> x.reading(beyond, 5),
                UNKNOWN);
        }
        Bounds.leaves("17 no frontier", Scenes::bare, x -> x.reading(0, 0), UNKNOWN);
        QuietDuty x = Scenes.half();
        is("17 the first post", x.reading(0, 116), 3);
        is("17 the last post", x.reading(3, 464), 4);
        is("17 both are so", x.said(0), 2);
    }

    static void promise17PaidIs0To99999() {
        for (int v : new int[] {-1, 100000, LOW, HIGH}) {
            Bounds.leaves("17 paid " + v, Scenes::half, x -> x.reading(3, v), OUTSIDE);
        }
        QuietDuty x = Scenes.half();
        is("17 the least", x.reading(3, 0), 3);
        is("17 the most", x.reading(3, 99999), 4);
        is("17 both are kept", x.many(4), 5);
    }

    static void promise17EightAreFull() {
        Bounds.leaves("17 full", Scenes::full, x -> x.reading(0, 0), Bounds.FULL);
        Bounds.leaves("17 full", Scenes::full, x -> x.reading(3, 99999), Bounds.FULL);
        QuietDuty x = Scenes.by(Scenes.LONGEST);
        for (int r = 0; r < 8; r++) {
            is("17 its number", x.reading(r % 4, r), r);
        }
        is("17 the ninth", x.reading(0, 0), Bounds.FULL);
        is("17 one taken back", x.back(1), 7);
        is("17 the eighth again", x.reading(0, 0), 7);
        is("17 the ninth", x.reading(0, 0), Bounds.FULL);
    }

    static void promise17UnknownThenOutsideThenFull() {
        Bounds.leaves("17 unknown and outside", Scenes::half, x -> x.reading(4, -1), UNKNOWN);
        Bounds.leaves("17 all three", Scenes::full, x -> x.reading(-1, 100000), UNKNOWN);
        Bounds.leaves("17 unknown and full", Scenes::full, x -> x.reading(4, 0), UNKNOWN);
        Bounds.leaves("17 outside and full", Scenes::full, x -> x.reading(0, -1), OUTSIDE);
        Bounds.leaves("17 outside and full", Scenes::full, x -> x.reading(3, 100000), OUTSIDE);
    }

    // ---- 18 back

    static void promise18From0ToAsManyAsThereAre() {
        for (int k : new int[] {-1, 9, LOW, HIGH}) {
            Bounds.leaves("18 of eight: " + k, Scenes::full, x -> x.back(k), OUTSIDE);
        }
        for (int k : new int[] {-1, 4, 8, LOW, HIGH}) {
            Bounds.leaves("18 of three: " + k, Scenes::half, x -> x.back(k), OUTSIDE);
        }
        Bounds.leaves("18 none of eight", Scenes::full, x -> x.back(0), 8);
        is("18 all eight", Scenes.full().back(8), 0);
        is("18 all three", Scenes.half().back(3), 0);
        is("18 one of three", Scenes.half().back(1), 2);
    }

    static void promise18WithoutReadingsOrAFrontier() {
        Bounds.leaves("18 none of none", () -> Scenes.by(Scenes.LONGEST), x -> x.back(0), 0);
        Bounds.leaves("18 one of none", () -> Scenes.by(Scenes.LONGEST), x -> x.back(1), OUTSIDE);
        Bounds.leaves("18 no frontier", QuietDuty::new, x -> x.back(0), 0);
        Bounds.leaves("18 no frontier", QuietDuty::new, x -> x.back(1), OUTSIDE);
        Bounds.leaves("18 no frontier", Scenes::bare, x -> x.back(-1), OUTSIDE);
    }

    static void promise18TheLastOnesAreTakenBack() {
        QuietDuty x = by("u0;10;20,s11", 0, 1, 1, 2, 1, 3);
        is("18 the last is not so", x.said(0), 0);
        is("18 it is taken back", x.back(1), 2);
        is("18 the others are so", x.said(0), 1);
        is("18 two are left", x.many(4), 2);
        is("18 its number again", x.reading(1, 2), 2);
        is("18 all are so", x.said(0), 1);
        is("18 all are taken back", x.back(3), 0);
        is("18 none is left", x.back(1), OUTSIDE);
        is("18 any set", x.said(0), 2);
    }

    // ---- 19 said

    static void promise19WhatIs0Or1() {
        for (int what : new int[] {-1, 2, LOW, HIGH}) {
            Bounds.leaves("19 what " + what, Scenes::half, x -> x.said(what), OUTSIDE);
        }
        Bounds.leaves("19 how many", Scenes::half, x -> x.said(0), 2);
        Bounds.leaves("19 the least", Scenes::half, x -> x.said(1), 12);
    }

    static void promise19WithoutAFrontier() {
        for (int what = 0; what < 2; what++) {
            int asked = what;
            Bounds.leaves("19 state", QuietDuty::new, x -> x.said(asked), STATE);
            Bounds.leaves("19 state", Scenes::bare, x -> x.said(asked), STATE);
        }
    }

    static void promise19OutsideIsToldAheadOfState() {
        Bounds.leaves("19 both", QuietDuty::new, x -> x.said(-1), OUTSIDE);
        Bounds.leaves("19 both", QuietDuty::new, x -> x.said(2), OUTSIDE);
    }

    static void promise19NoSetIsSo() {
        Bounds.leaves("19 how many", Scenes::full, x -> x.said(0), 0);
        Bounds.leaves("19 the least", Scenes::full, x -> x.said(1), NONE);
    }

    static void promise19AnySetWithoutReadings() {
        for (int silences = 1; silences <= 4; silences++) {
            QuietDuty x = by(Scenes.text(1, silences));
            is("19 of " + silences, x.said(0), 1 << silences);
            is("19 the least", x.said(1), 0);
        }
    }

    static void promise19LeastAndGreatestSet() {
        String text = "u0;10,s11,s21,s41,s81";
        for (int set = 0; set < 16; set++) {
            QuietDuty x = by(text, 0, set);
            is("19 minutes tell the set", x.said(0), 1);
            is("19 which is", x.said(1), set);
        }
        is("19 one minute more", by(text, 0, 16).said(1), NONE);
    }

    static void promise19AllReadingsAreSo() {
        QuietDuty x = by("u0;10;20,s11,s11,s21", 0, 2);
        is("19 by one", x.said(0), 2);
        is("19 the least", x.said(1), 3);
        x.reading(1, 4);
        is("19 by two alike", x.said(0), 2);
        x.reading(1, 3);
        is("19 by one that can't be", x.said(0), 0);
        is("19 none", x.said(1), NONE);
    }

    /** What was DECLARED may be any set, also of what is not DUTIABLE: those sets are alike. */
    static void promise19SetsOfWhatIsNotDutiable() {
        QuietDuty x = by("u0;10,k11,s21", 0, 2);
        x.law(1);
        is("19 with it, or without", x.said(0), 2);
        is("19 the least", x.said(1), 2);
        x.law(0);
        is("19 nothing is dutiable", x.said(0), 0);
        x.back(1);
        x.reading(0, 0);
        is("19 nothing is paid", x.said(0), 4);
    }

    // ---- 20, 21, 22 frees, laws, kinds

    static void promise20WithoutAFrontier() {
        Bounds.leaves("20 new", QuietDuty::new, QuietDuty::frees, STATE);
        Bounds.leaves("20 bare", Scenes::bare, QuietDuty::frees, STATE);
    }

    static void promise20From0To9() {
        is("20 any", by(Scenes.LONGEST).frees(), 1023);
        String text = "u5;10,s91,s11";
        for (int free = 0; free <= 9; free++) {
            is("20 free " + free, by(text, 0, 10 - free).frees(), 1 << free);
        }
        is("20 10 would be so", by(text, 0, 0).frees(), 0);
        is("20 -1 would be so", by(text, 0, 11).frees(), 0);
    }

    static void promise20AsManyAsAreLongOrMore() {
        is("20 3 and more", by("u0;10,s31", 0, 0).frees(), 1023 - 7);
        is("20 9 alone", by("u0;10,s91", 0, 0).frees(), 512);
        is("20 not declared", hidden("u0;10,s91", 0, 0).frees(), 1023);
    }

    private static QuietDuty hidden(String text, int... readings) {
        QuietDuty x = by(text, readings);
        x.declare(0, false);
        return x;
    }

    static void promise20NoneIsSo() {
        Bounds.leaves("20 none", Scenes::full, QuietDuty::frees, 0);
        Bounds.leaves("20 as it is", Scenes::half, QuietDuty::frees, 1 << 2);
    }

    static void promise21WithoutAFrontier() {
        Bounds.leaves("21 new", QuietDuty::new, QuietDuty::laws, STATE);
        Bounds.leaves("21 bare", Scenes::bare, QuietDuty::laws, STATE);
    }

    static void promise21From0To7() {
        is("21 any", by(Scenes.LONGEST).laws(), 255);
        // One carrier each, so that each kind adds its own: 1, 2 and 4.
        int[] paid = {0, 1, 2, 3, 4, 5, 6, 7};
        for (int law = 0; law < 8; law++) {
            QuietDuty x = by("u0;10,s11,k11,h11", 0, paid[law]);
            x.carry(1, 1);
            x.carry(2, 2);
            is("21 law " + law, x.laws(), 1 << law);
        }
        is("21 more than all", by("u0;10,s11,k11,h11", 0, 99999).laws(), 0);
    }

    static void promise21NoneIsSo() {
        Bounds.leaves("21 none", Scenes::full, QuietDuty::laws, 0);
        Bounds.leaves("21 as it is", Scenes::half, QuietDuty::laws, 1 << 5);
    }

    static void promise21KindsThatAreNotThere() {
        is("21 a plain one alone", by("u0;10,s11", 0, 1).laws(), 0b10101010);
        is("21 a held one alone", by("u0;10,h11", 0, 4).laws(), 0b11110000);
        is("21 nothing paid", by("u0;10,k11", 0, 0).laws(), 0b00110011);
    }

    static void promise22NoSuchSilence() {
        for (int k : new int[] {-1, 4, LOW, HIGH}) {
            Bounds.leaves("22 silence " + k, Scenes::half, x -> x.kinds(k), UNKNOWN);
        }
        for (int silences = 1; silences < 4; silences++) {
            int beyond = silences;
            Bounds.leaves("22 one of " + silences, () -> by(Scenes.text(1, beyond)), x -> x.kinds(beyond), UNKNOWN);
        }
        Bounds.leaves("22 no frontier", Scenes::bare, x -> x.kinds(0), UNKNOWN);
        // Of half(): the first is hidden, the second is not dutiable as a kept one alone, the others pay.
        int[] want = {7, 2, 4, 1};
        for (int k = 0; k < 4; k++) {
            int silence = k;
            Bounds.leaves("22 silence " + k, Scenes::half, x -> x.kinds(silence), want[k]);
        }
    }

    static void promise22From0To2() {
        int[] paid = {1, 2, 4};
        for (int was = 0; was < 3; was++) {
            for (int kind = 0; kind < 3; kind++) {
                QuietDuty x = by("u0;10," + "skh".charAt(was) + "11", 0, paid[kind]);
                is("22 kind " + kind, x.kinds(0), 1 << kind);
            }
        }
        is("22 any", by("u0;10,k11").kinds(0), 7);
        is("22 none", by("u0;10,k11", 0, 3).kinds(0), 0);
    }

    static void promise22NoneIsSo() {
        for (int k = 0; k < 4; k++) {
            int silence = k;
            Bounds.leaves("22 none", Scenes::full, x -> x.kinds(silence), 0);
        }
    }

    static void promise22DutiableByThatKind() {
        QuietDuty x = by("u0;10,s11", 0, 0);
        x.law(2);
        is("22 not as a kept one", x.kinds(0), 5);
        x.law(7);
        is("22 always dutiable", x.kinds(0), 0);
        x.law(0);
        is("22 never", x.kinds(0), 7);
    }

    // ---- 23 odds

    private static void oddsAre(String told, QuietDuty x, int p, int v, long upper, long lower) {
        is("23 upper: " + told, x.odds(p, v, 0), upper);
        is("23 lower: " + told, x.odds(p, v, 1), lower);
    }

    static void promise23NoSuchPost() {
        for (int p : new int[] {-1, 4, LOW, HIGH}) {
            Bounds.leaves("23 post " + p, Scenes::full, x -> x.odds(p, 0, 0), LOST);
            Bounds.leaves("23 post " + p, Scenes::full, x -> x.odds(p, 0, 1), LOST);
        }
        Bounds.leaves("23 of two", () -> by(Scenes.text(2, 1)), x -> x.odds(2, 0, 0), LOST);
        Bounds.leaves("23 no frontier", Scenes::bare, x -> x.odds(0, 0, 0), LOST);
        Bounds.leaves("23 the first post", Scenes::full, x -> x.odds(0, 0, 1), 1);
        Bounds.leaves("23 the last post", Scenes::full, x -> x.odds(3, 0, 1), 1);
    }

    static void promise23PaidIs0To99999() {
        for (int v : new int[] {-1, 100000, LOW, HIGH}) {
            Bounds.leaves("23 paid " + v, Scenes::full, x -> x.odds(0, v, 0), LOST);
            Bounds.leaves("23 paid " + v, Scenes::full, x -> x.odds(0, v, 1), LOST);
        }
        Bounds.leaves("23 the least", Scenes::full, x -> x.odds(0, 0, 0), 1);
        Bounds.leaves("23 the most", Scenes::full, x -> x.odds(0, 99999, 0), 0);
        Bounds.leaves("23 the most", Scenes::full, x -> x.odds(0, 99999, 1), 1);
    }

    static void promise23WhichIs0Or1() {
        for (int which : new int[] {-1, 2, LOW, HIGH}) {
            Bounds.leaves("23 which " + which, Scenes::full, x -> x.odds(0, 0, which), LOST);
        }
    }

    static void promise23SoMuchOrMore() {
        QuietDuty x = by("u0;10;20,s11,s21,s41,s81");
        for (int v = 0; v <= 15; v++) {
            int common = Math.min(16, Integer.lowestOneBit(16 - v));
            oddsAre(v + " or more", x, 0, v, (16 - v) / common, 16 / common);
        }
        oddsAre("more than all", x, 0, 16, 0, 1);
        oddsAre("all, at rate 2", x, 1, 30, 1, 16);
        oddsAre("more than all, at rate 2", x, 1, 31, 0, 1);
    }

    static void promise23LeastTermsOfFewerSilences() {
        oddsAre("one", by("u0;10,s11"), 0, 1, 1, 2);
        oddsAre("one of two", by("u0;10,s11,s11"), 0, 1, 3, 4);
        oddsAre("both of two", by("u0;10,s11,s11"), 0, 2, 1, 4);
        oddsAre("three of three", by("u0;10,s11,s11,s11"), 0, 3, 1, 8);
        oddsAre("two of three", by("u0;10,s11,s11,s11"), 0, 2, 1, 2);
    }

    static void promise23InPlaceOfWhatIsDeclared() {
        QuietDuty x = hidden("u0;10,s11,k11", 0, 5);
        oddsAre("as if it might be", x, 0, 4, 1, 4);
        x.law(1);
        oddsAre("not dutiable, alike", x, 0, 1, 1, 2);
        x.law(0);
        oddsAre("nothing is paid", x, 0, 0, 1, 1);
        oddsAre("nothing is paid", x, 0, 1, 0, 1);
        is("23 what is stays", x.ofSilence(0, 6), 0);
        is("23 what is stays", x.ofSilence(1, 6), 1);
    }

    private Part4Bounds() {
    }
}
