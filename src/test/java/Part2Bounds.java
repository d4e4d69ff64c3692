/** The boundary cases of part 2, duties: a method for each sentence, named after its promise. */
final class Part2Bounds {
    private static final int UNKNOWN = Bounds.UNKNOWN, OUTSIDE = Bounds.OUTSIDE;
    private static final int LOW = Bounds.LOW, HIGH = Bounds.HIGH;
    private static final long LOST = Bounds.LOST;
    private static final Ways COST = new Ways("12 cost", true, (x, sheet, lane, i, n) -> x.cost(sheet, lane, i, n, 0));
    private static final Ways LOWER = new Ways("12 cost, lower", true,
        (x, sheet, lane, i, n) -> x.cost(sheet, lane, i, n, 1));

    private static void is(String told, long got, long want) {
        Bounds.is(told, got, want);
    }

    // ---- 10 duty

    static void promise10NoSuchPost() {
        for (int p : new int[] {-1, 4, LOW, HIGH}) {
            Bounds.leaves("10 post " + p, Scenes::full, x -> x.duty(p), UNKNOWN);
        }
        for (int posts = 1; posts < 4; posts++) {
            int beyond = posts;
            Bounds.leaves("10 post " + posts, () -> Scenes.by(Scenes.text(beyond, 1)), x -> x.duty(beyond), UNKNOWN);
        }
        Bounds.leaves("10 no frontier", Scenes::bare, x -> x.duty(0), UNKNOWN);
        int[] want = {116, 232, 1044, 464};
        for (int p = 0; p < 4; p++) {
            int post = p;
            Bounds.leaves("10 post " + p, Scenes::full, x -> x.duty(post), want[post]);
        }
    }

    static void promise10FreeMinutesLeave0AtLeast() {
        QuietDuty x = Scenes.by("u3;20,s41");
        is("10 one minute more", x.duty(0), 2);
        x.free(4);
        is("10 as long as is free", x.duty(0), 0);
        x.free(5);
        is("10 one minute less", x.duty(0), 0);
        x.free(9);
        is("10 the most free", x.duty(0), 0);
        x.free(0);
        is("10 none free", x.duty(0), 8);
    }

    static void promise10EachCarrierIs0AtLeastByItself() {
        QuietDuty x = Scenes.by("u3;10,s51,s19");
        is("10 together", x.duty(0), 3 * 9);
        x.carry(1, 1);
        is("10 what is left free of one is not the other's", x.duty(0), 2);
        x.carry(0, 2);
        is("10 by other carriers", x.duty(0), 2);
    }

    static void promise10GreatestGradeOfWhatIsDeclaredAndDutiable() {
        QuietDuty x = Scenes.by("u0;10,s11,k19");
        is("10 the kept one's", x.duty(0), 2 * 10);
        x.declare(1, false);
        is("10 it is not declared", x.duty(0), 1);
        x.declare(1, true);
        x.law(5);
        is("10 it is not dutiable", x.duty(0), 1);
        x.law(2);
        is("10 it alone is dutiable", x.duty(0), 10);
        x.law(7);
        x.carry(1, 2);
        is("10 another has it", x.duty(0), 11);
    }

    static void promise10NothingIsDutiableOrDeclared() {
        QuietDuty x = Scenes.by(Scenes.LONGEST);
        x.law(0);
        is("10 nothing is dutiable", x.duty(2), 0);
        x.law(7);
        for (int k = 0; k < 4; k++) {
            x.declare(k, false);
        }
        is("10 nothing is declared", x.duty(2), 0);
    }

    static void promise10LeastAndGreatest() {
        is("10 the least", Scenes.by("u0;10,s11").duty(0), 1);
        is("10 the greatest", Scenes.by("u0;99,h99,h99,h99,h99").duty(0), 36 * 20 * 9);
    }

    // ---- 11 clear

    private static void clearIs(String told, QuietDuty x, int p, long upper, long lower) {
        is("11 upper: " + told, x.clear(p, 0), upper);
        is("11 lower: " + told, x.clear(p, 1), lower);
    }

    static void promise11NoSuchPost() {
        for (int p : new int[] {-1, 4, LOW, HIGH}) {
            Bounds.leaves("11 post " + p, Scenes::full, x -> x.clear(p, 0), LOST);
            Bounds.leaves("11 post " + p, Scenes::full, x -> x.clear(p, 1), LOST);
        }
        Bounds.leaves("11 of two", () -> Scenes.by(Scenes.text(2, 1)), x -> x.clear(2, 0), LOST);
        Bounds.leaves("11 no frontier", Scenes::bare, x -> x.clear(0, 0), LOST);
        long[][] want = {{9, 10}, {1, 5}, {1, 1}, {2, 5}};
        for (int p = 0; p < 4; p++) {
            int post = p;
            Bounds.leaves("11 post " + p, Scenes::full, x -> x.clear(post, 0), want[post][0]);
            Bounds.leaves("11 post " + p, Scenes::full, x -> x.clear(post, 1), want[post][1]);
        }
    }

    static void promise11WhichIs0Or1() {
        for (int which : new int[] {-1, 2, LOW, HIGH}) {
            Bounds.leaves("11 which " + which, Scenes::full, x -> x.clear(3, which), LOST);
            Bounds.leaves("11 post and which " + which, Scenes::full, x -> x.clear(4, which), LOST);
        }
    }

    static void promise11EarAboveTheHumIs0AtLeast() {
        QuietDuty x = Scenes.by("u0;15,s11");
        x.declare(0, false);
        clearIs("nobody hums", x, 0, 1, 2);
        x.hum(0, 4);
        clearIs("ear one above", x, 0, 9, 10);
        x.hum(0, 5);
        clearIs("ear as the hum", x, 0, 1, 1);
        x.hum(0, 6);
        clearIs("ear one below", x, 0, 1, 1);
        x.hum(0, 9);
        clearIs("ear far below", x, 0, 1, 1);
    }

    static void promise11LeastAndGreatestEar() {
        QuietDuty x = Scenes.by("u0;10;19;11,s11,k22,h33,s44");
        for (int k = 0; k < 4; k++) {
            x.declare(k, false);
        }
        clearIs("an ear of 0", x, 0, 1, 1);
        clearIs("an ear of 9", x, 1, 1, 10000);
        clearIs("an ear of 1", x, 2, 6561, 10000);
    }

    static void promise11LeastTerms() {
        QuietDuty x = Scenes.by("u0;15;12;14,s11,s11");
        x.declare(0, false);
        clearIs("5 tenths", x, 0, 1, 2);
        clearIs("8 tenths", x, 1, 4, 5);
        clearIs("6 tenths", x, 2, 3, 5);
        x.declare(1, false);
        clearIs("25 hundredths", x, 0, 1, 4);
        clearIs("64 hundredths", x, 1, 16, 25);
        clearIs("36 hundredths", x, 2, 9, 25);
    }

    static void promise11OnlyWhatIsDutiableAndNotDeclared() {
        QuietDuty x = Scenes.by("u0;19,s11,k11");
        clearIs("all is declared", x, 0, 1, 1);
        x.declare(0, false);
        clearIs("one is not", x, 0, 1, 10);
        x.law(6);
        clearIs("it is not dutiable", x, 0, 1, 1);
        x.law(0);
        x.declare(1, false);
        clearIs("nothing is", x, 0, 1, 1);
    }

    static void promise11EachByItsOwnCarrier() {
        QuietDuty x = Scenes.by("u0;18,s11,s11,s11");
        for (int k = 0; k < 3; k++) {
            x.declare(k, false);
            x.carry(k, k);
        }
        x.hum(1, 3);
        x.hum(2, 9);
        clearIs("two tenths, five tenths, all", x, 0, 1, 10);
    }

    // ---- 12 cost

    static void promise12SheetIsOneOf0To3() {
        COST.sheetIsOneOf0To3();
        LOWER.sheetIsOneOf0To3();
    }

    static void promise12LaneIsOneOf0To2() {
        COST.laneIsOneOf0To2();
        LOWER.laneIsOneOf0To2();
    }

    static void promise12WayIsOf0To8Cells() {
        COST.wayIsOf0To8Cells();
        LOWER.wayIsOf0To8Cells();
    }

    static void promise12WhichIs0Or1() {
        for (int which : new int[] {-1, 2, LOW, HIGH}) {
            Bounds.lost("12 which " + which, Scenes::full, x -> x.cost(0, 0, 0, 1, which), OUTSIDE);
        }
    }

    static void promise12WhichIsToldAheadOfStateAndFaults() {
        Bounds.lost("12 which, no frontier", Scenes::bare, x -> x.cost(0, 0, 0, 1, 2), OUTSIDE);
        Bounds.lost("12 which, another lane", Scenes::full, x -> x.cost(0, 1, 0, 1, 2), OUTSIDE);
        Bounds.lost("12 which, of nothing", Scenes::full, x -> x.cost(3, 0, 0, 1, -1), OUTSIDE);
        Bounds.lost("12 which and i", Scenes::full, x -> x.cost(0, 0, -1, 1, 2), OUTSIDE);
        Bounds.lost("12 which, no post", Scenes::full, x -> x.cost(0, 0, 8, 1, 2), OUTSIDE);
        Bounds.lost("12 which and sheet", Scenes::full, x -> x.cost(4, 0, 0, 1, 2), UNKNOWN);
    }

    static void promise12OutsideIsToldBehindTheSheet() {
        COST.outsideIsToldBehindTheSheet();
    }

    static void promise12OutsideIsToldAheadOfState() {
        COST.outsideIsToldAheadOfState();
    }

    static void promise12OutsideIsToldAheadOfFaults() {
        COST.outsideIsToldAheadOfFaults();
    }

    static void promise12StateIsToldAheadOfFaults() {
        COST.stateIsToldAheadOfFaults();
    }

    static void promise12AnotherLaneIsACast() {
        COST.anotherLaneIsACast();
    }

    static void promise12NothingIsNullAndNoCast() {
        COST.nothingIsNullAndNoCast();
    }

    static void promise12CellsAreWithinTheRow() {
        COST.cellsAreWithinTheRow();
    }

    static void promise12EachCellIsAPost() {
        COST.eachCellIsAPost();
    }

    private static void costIs(String told, QuietDuty x, int n, long upper, long lower) {
        is("12 upper: " + told, x.cost(2, 2, 0, n, 0), upper);
        is("12 lower: " + told, x.cost(2, 2, 0, n, 1), lower);
    }

    static void promise12WayOf0And8Posts() {
        Bounds.leaves("12 of none, upper", Scenes::full, x -> x.cost(1, 1, 0, 0, 0), 0, 0);
        Bounds.leaves("12 of none, lower", Scenes::full, x -> x.cost(1, 1, 0, 0, 1), 1, 0);
        Bounds.leaves("12 of eight, upper", Scenes::full, x -> x.cost(1, 1, 0, 8, 0), 58547864, 0);
        Bounds.leaves("12 of eight, lower", Scenes::full, x -> x.cost(1, 1, 0, 8, 1), 15625, 0);
    }

    /** One POST may come again, and what was heard is heard no more: 9 tenths each time of what is left. */
    static void promise12OnePostAgainAndAgain() {
        QuietDuty x = Scenes.by("u0;19,s11");
        Due.row(x, 2, 2, 0, 0, 0, 0, 0, 0, 0, 0);
        x.declare(0, false);
        long left = 100000000;
        for (int n = 1; n <= 8; n++) {
            left /= 10;
            long upper = 2 * (100000000 - left);
            long common = java.math.BigInteger.valueOf(upper).gcd(java.math.BigInteger.valueOf(100000000)).longValue();
            costIs(n + " times", x, n, upper / common, 100000000 / common);
        }
        x.declare(0, true);
        costIs("declared, duty each time", x, 8, 8, 1);
    }

    static void promise12LeastTerms() {
        QuietDuty x = Scenes.by("u0;15;12,s11");
        Due.row(x, 2, 2, 0, 1);
        x.declare(0, false);
        costIs("a whole number", x, 1, 1, 1);
        costIs("6 fifths", x, 2, 6, 5);
        x.law(0);
        costIs("nothing", x, 2, 0, 1);
    }

    static void promise12NothingIsHeardByAnEarNotAboveTheHum() {
        QuietDuty x = Scenes.by("u0;15,h99");
        Due.row(x, 2, 2, 0, 0);
        x.declare(0, false);
        x.hum(0, 5);
        costIs("ear as the hum", x, 2, 0, 1);
        x.hum(0, 9);
        costIs("ear below it", x, 2, 0, 1);
        x.hum(0, 4);
        costIs("ear one above it", x, 1, 36, 1);
    }

    static void promise12Greatest() {
        QuietDuty x = Scenes.by("u0;99,h99,h99,h99,h99");
        Due.row(x, 2, 2, 0, 0, 0, 0, 0, 0, 0, 0);
        costIs("all declared", x, 8, 8L * 6480, 1);
        for (int k = 0; k < 4; k++) {
            x.declare(k, false);
        }
        costIs("none declared", x, 8, 8099999919L, 625000);
    }

    private Part2Bounds() {
    }
}
