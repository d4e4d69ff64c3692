/** The boundary cases of part 3, what to declare and who carries which: a method for each sentence. */
final class Part3Bounds {
    private static final int UNKNOWN = Bounds.UNKNOWN, OUTSIDE = Bounds.OUTSIDE, STATE = Bounds.STATE;
    private static final int NONE = Bounds.NONE, LOW = Bounds.LOW, HIGH = Bounds.HIGH;
    private static final long PARTS = 100000000;
    private static final Ways SAY = new Ways("13 say", false, QuietDuty::say);
    private static final Ways WORTH = new Ways("16 worth", true,
        (x, sheet, lane, i, n) -> x.worth(0, sheet, lane, i, n));

    private static void is(String told, long got, long want) {
        Bounds.is(told, got, want);
    }

    // ---- 13 say

    static void promise13SheetIsOneOf0To3() {
        SAY.sheetIsOneOf0To3();
    }

    static void promise13LaneIsOneOf0To2() {
        SAY.laneIsOneOf0To2();
    }

    static void promise13WayIsOf0To8Cells() {
        SAY.wayIsOf0To8Cells();
    }

    static void promise13OutsideIsToldBehindTheSheet() {
        SAY.outsideIsToldBehindTheSheet();
    }

    static void promise13OutsideIsToldAheadOfState() {
        SAY.outsideIsToldAheadOfState();
    }

    static void promise13OutsideIsToldAheadOfFaults() {
        SAY.outsideIsToldAheadOfFaults();
    }

    static void promise13StateIsToldAheadOfFaults() {
        SAY.stateIsToldAheadOfFaults();
    }

    static void promise13AnotherLaneIsACast() {
        SAY.anotherLaneIsACast();
    }

    static void promise13NothingIsNullAndNoCast() {
        SAY.nothingIsNullAndNoCast();
    }

    static void promise13CellsAreWithinTheRow() {
        SAY.cellsAreWithinTheRow();
    }

    static void promise13EachCellIsAPost() {
        SAY.eachCellIsAPost();
    }

    static void promise13EmptyWayIsTheLeastSet() {
        Bounds.leaves("13 of none", Scenes::full, x -> x.say(2, 2, 0, 0), 0, 0);
        Bounds.leaves("13 all declared", () -> Scenes.by(Scenes.LONGEST), x -> x.say(2, 2, 0, 0), 0, 0);
    }

    static void promise13SetsOfNoneAndOfAll() {
        QuietDuty x = Scenes.by("u9;19;10,s21,s21,s21,s21");
        is("13 all are free together", x.say(0, 0, 0, 1), 15);
        x.declare(2, false);
        is("13 in place of what is", x.say(0, 0, 0, 1), 15);
        is("13 none is heard", x.say(0, 0, 1, 1), 0);
        is("13 what is stays", x.ofSilence(2, 6), 0);
        is("13 what is stays", x.ofSilence(3, 6), 1);
    }

    static void promise13BitOfEachSilence() {
        for (int k = 0; k < 4; k++) {
            StringBuilder text = new StringBuilder("u5;15");
            for (int s = 0; s < 4; s++) {
                text.append(s == k ? ",s55" : ",s61");
            }
            // It is free by itself; with another one, at its grade, it would cost more than both hidden.
            QuietDuty x = Scenes.by(text.toString());
            is("13 bit " + k, x.say(0, 0, 0, 1), 1 << k);
        }
    }

    static void promise13OfSeveralTheLeastSet() {
        QuietDuty x = Scenes.by("u1;15,s11,s11");
        is("13 one of two alike", x.say(0, 0, 0, 1), 1);
        x.free(0);
        is("13 declared or not, alike", x.say(0, 0, 0, 1), 0);
        x.law(6);
        is("13 not dutiable", x.say(0, 0, 0, 1), 0);
    }

    /** Half a duty's part decides: the cost is compared in the mean, not as a whole number. */
    static void promise13LeastByLessThanOne() {
        QuietDuty more = Scenes.by("u0;16,s11");
        is("13 6 fifths hidden, 1 declared", more.say(0, 0, 0, 1), 1);
        QuietDuty less = Scenes.by("u0;14,s11");
        is("13 4 fifths hidden, 1 declared", less.say(0, 0, 0, 1), 0);
    }

    static void promise13ChangesNothing() {
        // At post 1: the held one 120 (hidden 320), the last 112 (hidden 172.8), the first 25.6 hidden (declared
        // beside the held one both are 280).
        Bounds.leaves("13 of one", Scenes::full, x -> x.say(0, 0, 1, 1), 12, 0);
        // Along all four each costs less hidden: 31.552 (64), 394.4 (960), 264.96 (896).
        Bounds.leaves("13 of four", Scenes::full, x -> x.say(0, 0, 0, 4), 0, 0);
    }

    // ---- 14 pack

    static void promise14BelowMinus1() {
        for (int k : new int[] {-2, -3, LOW}) {
            Bounds.leaves("14 " + k, Scenes::full, x -> x.pack(k), UNKNOWN);
        }
        Bounds.leaves("14 -1", Scenes::full, x -> x.pack(-1), (3 * 20 + 7 * 8) * 16);
    }

    static void promise14ThereAreFewer() {
        for (int k : new int[] {4, 5, HIGH}) {
            Bounds.leaves("14 of four: " + k, Scenes::full, x -> x.pack(k), NONE);
        }
        for (int silences = 1; silences <= 4; silences++) {
            String text = Scenes.text(2, silences);
            for (int k : new int[] {silences, silences + 1, HIGH}) {
                Bounds.leaves("14 of " + silences + ": " + k, () -> Scenes.by(text), x -> x.pack(k), NONE);
            }
            Bounds.DUE.holds("14 the last of " + silences, Scenes.by(text).pack(silences - 1) >= 0);
            is("14 the first of " + silences, Scenes.by(text).pack(0), 0);
        }
    }

    static void promise14WithoutAFrontier() {
        for (int k : new int[] {-1, 0, 4, HIGH}) {
            Bounds.leaves("14 state " + k, QuietDuty::new, x -> x.pack(k), STATE);
            Bounds.leaves("14 state " + k, Scenes::bare, x -> x.pack(k), STATE);
        }
    }

    static void promise14UnknownIsToldAheadOfState() {
        Bounds.leaves("14 both", QuietDuty::new, x -> x.pack(-2), UNKNOWN);
        Bounds.leaves("14 both", Scenes::bare, x -> x.pack(LOW), UNKNOWN);
    }

    private static void packIs(String told, QuietDuty x, int duty, int... row) {
        is("14 duty: " + told, x.pack(-1), duty);
        for (int k = 0; k < row.length; k++) {
            is("14 " + told + ": carrier of " + k, x.pack(k), row[k]);
        }
    }

    static void promise14OfSeveralTheFirstRow() {
        packIs("all alike", Scenes.by("u0;10,s11,s11,s11,s11"), 4, 0, 0, 0, 0);
        packIs("all free", Scenes.by("u9;10,s21,s21,s21,s21"), 0, 0, 0, 0, 0);
        packIs("two kinds of grade", Scenes.by("u0;10,s12,s11"), 3, 0, 1);
        packIs("the last one apart", Scenes.by("u0;10,s11,s11,s11,s19"), 12, 0, 0, 0, 1);
        packIs("the first one apart", Scenes.by("u0;10,s19,s11,s11,s11"), 12, 0, 1, 1, 1);
        packIs("all three carriers", Scenes.by("u0;10,s13,s12,s11"), 6, 0, 1, 2);
        packIs("all three, four silences", Scenes.by("u0;10,s13,s12,s12,s11"), 8, 0, 1, 1, 2);
    }

    static void promise14DutyAtAllPostsTogether() {
        packIs("one post", Scenes.by("u0;10,s11"), 1, 0);
        packIs("four posts", Scenes.by("u0;10;20;30;40,s11"), 10, 0);
        packIs("the most", Scenes.by("u0;90;90;90;90,h99,h99,h99,h99"), 4 * 6480, 0, 0, 0, 0);
    }

    static void promise14OnlyWhatIsDeclaredAndDutiable() {
        QuietDuty x = Scenes.by("u0;10,s19,s11,k19");
        packIs("all", x, 9 + 1 + 10, 0, 1, 2);
        x.declare(0, false);
        packIs("the first is not declared", x, 1 + 10, 0, 0, 1);
        x.law(1);
        packIs("kept ones are not dutiable", x, 1, 0, 0, 0);
        x.law(0);
        packIs("nothing", x, 0, 0, 0, 0);
    }

    static void promise14ChangesNoCarrier() {
        int[] row = {0, 0, 0, 1};
        for (int k = 0; k < 4; k++) {
            int silence = k;
            Bounds.leaves("14 carrier of " + k, Scenes::full, x -> x.pack(silence), row[k]);
            Bounds.leaves("14 in place of " + k, Part3Bounds::withCarriers, x -> x.pack(silence), row[k]);
        }
        Bounds.leaves("14 duty", Part3Bounds::withCarriers, x -> x.pack(-1), 1856);
    }

    private static QuietDuty withCarriers() {
        QuietDuty x = Scenes.full();
        int[] row = {2, 1, 2, 1};
        for (int k = 0; k < 4; k++) {
            x.carry(k, row[k]);
        }
        return x;
    }

    // ---- 15 road

    static void promise15WithoutAFrontier() {
        Bounds.leaves("15 new", QuietDuty::new, QuietDuty::road, STATE);
        Bounds.leaves("15 bare", Scenes::bare, QuietDuty::road, STATE);
    }

    static void promise15OfSeveralTheLeast() {
        is("15 one post", Scenes.by("u0;99,s11").road(), 0);
        is("15 all alike", Scenes.by("u0;10;10;10;10,s11").road(), 0);
        is("15 the last two alike", Scenes.by("u0;30;20;10;10,s11").road(), 2);
        is("15 the last", Scenes.by("u0;40;30;20;10,s11").road(), 3);
        is("15 the first", Scenes.by("u0;10;20;30;40,s11").road(), 0);
        is("15 nothing costs", Scenes.by("u9;40;30;20;10,s11").road(), 0);
    }

    static void promise15LeastByLessThanOne() {
        QuietDuty x = Scenes.by("u0;14;13;22,s11");
        x.declare(0, false);
        is("15 8, 6 and 8 tenths", x.road(), 1);
    }

    static void promise15ChangesNothing() {
        Bounds.leaves("15 of four", Scenes::full, QuietDuty::road, 0);
    }

    // ---- 16 worth

    static void promise16NoSuchSilence() {
        for (int k : new int[] {-1, 4, LOW, HIGH}) {
            Bounds.lost("16 silence " + k, Scenes::full, x -> x.worth(k, 0, 0, 0, 1), UNKNOWN);
        }
        for (int silences = 1; silences < 4; silences++) {
            int beyond = silences;
            Bounds.lost("16 one of " + silences, () -> Scenes.by(Scenes.text(2, beyond)),
                x -> x.worth(beyond, 0, 0, 0, 1), UNKNOWN);
        }
    }

    static void promise16SilenceIsToldAheadOfFaults() {
        Bounds.lost("16 and another lane", Scenes::full, x -> x.worth(4, 0, 1, 0, 1), UNKNOWN);
        Bounds.lost("16 and of nothing", Scenes::full, x -> x.worth(-1, 3, 0, 0, 1), UNKNOWN);
        Bounds.lost("16 and index", Scenes::full, x -> x.worth(4, 0, 0, -1, 1), UNKNOWN);
    }

    static void promise16WithoutAFrontierNoSilence() {
        Bounds.lost("16 bare", Scenes::bare, x -> x.worth(0, 0, 0, 0, 1), UNKNOWN);
        Bounds.lost("16 bare, another lane", Scenes::bare, x -> x.worth(0, 0, 1, 0, 1), UNKNOWN);
        Bounds.lost("16 bare, of nothing", Scenes::bare, x -> x.worth(0, 3, 0, 0, 1), UNKNOWN);
        Bounds.lost("16 bare, index", Scenes::bare, x -> x.worth(0, 0, 0, -1, 1), UNKNOWN);
    }

    static void promise16SheetIsOneOf0To3() {
        WORTH.sheetIsOneOf0To3();
    }

    static void promise16LaneIsOneOf0To2() {
        WORTH.laneIsOneOf0To2();
    }

    static void promise16WayIsOf0To8Cells() {
        WORTH.wayIsOf0To8Cells();
    }

    static void promise16OutsideIsToldBehindTheSheet() {
        WORTH.outsideIsToldBehindTheSheet();
    }

    static void promise16OutsideIsToldAheadOfFaults() {
        WORTH.outsideIsToldAheadOfFaults();
    }

    static void promise16AnotherLaneIsACast() {
        WORTH.anotherLaneIsACast();
    }

    static void promise16NothingIsNullAndNoCast() {
        WORTH.nothingIsNullAndNoCast();
    }

    static void promise16CellsAreWithinTheRow() {
        WORTH.cellsAreWithinTheRow();
    }

    static void promise16EachCellIsAPost() {
        WORTH.eachCellIsAPost();
    }

    static void promise16FirstAndLastSilence() {
        // Post 0 by full(): duty 60 of the held one, 56 of the last; the first is heard by one tenth of 16.
        long[] want = {160000000, 0, 60 * PARTS, 56 * PARTS};
        for (int k = 0; k < 4; k++) {
            int silence = k;
            Bounds.leaves("16 of " + k, Scenes::full, x -> x.worth(silence, 0, 0, 0, 1), want[k], 0);
        }
    }

    static void promise16OfAnEmptyWay() {
        for (int k = 0; k < 4; k++) {
            int silence = k;
            Bounds.leaves("16 of none", Scenes::full, x -> x.worth(silence, 1, 1, 0, 0), 0, 0);
        }
    }

    static void promise16WithoutItTheOthersGradeAndFreeMinutes() {
        QuietDuty x = Scenes.by("u3;10,s29,s41");
        is("16 the grade goes with it", x.worth(0, 0, 0, 0, 1), (3 * 9 - 1) * PARTS);
        is("16 the other's is all free", x.worth(1, 0, 0, 0, 1), 27 * PARTS);
        x.free(9);
        is("16 all is free", x.worth(1, 0, 0, 0, 1), 0);
        x.free(0);
        x.law(0);
        is("16 not dutiable", x.worth(0, 0, 0, 0, 1), 0);
    }

    /** The least part: what is left behind seven times nine tenths, heard by one tenth more. */
    static void promise16PartsAreWholeByEightPosts() {
        QuietDuty x = Scenes.by("u0;19;11,s11");
        Due.row(x, 2, 2, 0, 0, 0, 0, 0, 0, 0, 1);
        x.declare(0, false);
        is("16 of eight", x.worth(0, 2, 2, 0, 8), 2 * (PARTS - 10) + 2);
        is("16 of seven", x.worth(0, 2, 2, 0, 7), 2 * (PARTS - 10));
    }

    static void promise16Greatest() {
        QuietDuty x = Scenes.by("u0;99,h99,h99,h99,h99");
        Due.row(x, 2, 2, 0, 0, 0, 0, 0, 0, 0, 0);
        is("16 declared", x.worth(3, 2, 2, 0, 8), 8 * 9 * 20 * 9 * PARTS);
        x.declare(3, false);
        is("16 hidden", x.worth(3, 2, 2, 0, 8), 2 * 180 * 9 * (PARTS - 1));
    }

    private Part3Bounds() {
    }
}
