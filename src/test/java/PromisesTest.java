/** Each promise of the document by itself: ordinary inputs, the edges it names, and wrong inputs. */
final class PromisesTest {
    private static final long LOST = QuietDuty.LOST;
    private static final int LOW = Integer.MIN_VALUE, HIGH = Integer.MAX_VALUE;
    /** FREE 3; three POSTS; SILENCES of GRADES 2, 2, 4, 8 and WEIGHTS 8, 6, 20, 72. */
    private static final String FOUR = "u3;25;30;79,s42,k31,h51,s98";

    private static Due due = new Due();

    public static void main(String[] args) {
        promise1NewObject();
        promise2Frontier();
        promise2FirstFaults();
        promise2MakesAllAnew();
        promise3OfPost();
        promise4OfSilence();
        promise5Free();
        promise6Law();
        promise7Carry();
        promise8Declare();
        promise9Hum();
        promise10Duty();
        promise11Clear();
        promise12Cost();
        promise13Say();
        promise14Pack();
        promise15Road();
        promise16Worth();
        promise17Reading();
        promise18Back();
        promise19Said();
        promise20Frees();
        promise21Laws();
        promise22Kinds();
        promise23Odds();
        promise24Sheet();
        promise25Lose();
        promise26Put();
        promise27Cell();
        promise28Copy();
        promise29Tell();
        promise30Hush();
        promise31As();
        promise32Trace();
        promise33Fault();
        promise34Many();
        due.end();
    }

    private static void is(String call, long got, long want) {
        due.is(call, got, want);
    }

    private static void promise1NewObject() {
        QuietDuty x = new QuietDuty();
        is("1 no post", x.ofPost(0, 0), -1);
        is("1 no silence", x.ofSilence(0, 0), -1);
        for (int what = 0; what < 5; what++) {
            is("1 many " + what, x.many(what), 0);
        }
        for (int k = 0; k < 4; k++) {
            is("1 sheet has nothing " + k, x.put(k, 0, 1), -11);
            is("1 lose " + k, x.lose(k), 0);
        }
        is("1 trace", x.trace(), 0);
        is("1 no reading to take back", x.back(0), 0);
        is("1 back", x.back(1), -2);
    }

    private static void promise2Frontier() {
        for (int lane = 0; lane < 3; lane++) {
            QuietDuty x = new QuietDuty();
            String text = "??" + FOUR + "?";
            Due.row(x, 1, lane, text.chars().toArray());
            is("2 from 2 on", x.frontier(1, lane, 2, FOUR.length()), 4);
            is("2 it ends ahead of its row", x.frontier(1, lane, 2, 1), -101);
            is("2 it ends ahead of its row", x.frontier(1, lane, 2, 13), -113);
            is("2 all of it", x.frontier(1, lane, 2, FOUR.length()), 4);
            is("2 silences", x.many(0), 4);
            is("2 posts", x.many(1), 3);
            is("2 fault", x.fault(), 0);
            is("2 cast", x.frontier(1, (lane + 1) % 3, 2, FOUR.length()), -12);
            is("2 fault", x.fault(), 2);
            is("2 cast ahead of size", x.frontier(1, (lane + 1) % 3, 2, -1), -12);
            is("2 unknown sheet", x.frontier(-1, 9, 2, 1), -1);
            is("2 refused: no fault", x.fault(), 0);
            is("2 unknown sheet", x.frontier(4, lane, 2, 1), -1);
            is("2 lane", x.frontier(1, 3, 2, 1), -2);
            is("2 lane ahead of null", x.frontier(0, -1, 2, 1), -2);
            is("2 nothing is no cast", x.frontier(0, lane, -1, -1), -11);
            is("2 size ahead of index", x.frontier(1, lane, -1, -1), -14);
            is("2 fault", x.fault(), 4);
            is("2 index", x.frontier(1, lane, -1, 0), -13);
            is("2 index", x.frontier(1, lane, text.length() + 1, 0), -13);
            is("2 just at the end", x.frontier(1, lane, text.length(), 0), -100);
            is("2 no fault by a text", x.fault(), 0);
            is("2 index", x.frontier(1, lane, 1, text.length()), -13);
            is("2 index that wraps", x.frontier(1, lane, 1, HIGH), -13);
            is("2 index that wraps", x.frontier(1, lane, HIGH, HIGH), -13);
            is("2 index", x.frontier(1, lane, LOW, 1), -13);
            is("2 still four", x.many(0), 4);
        }
    }

    private static void promise2FirstFaults() {
        faultAt("", 0);
        faultAt("x", 0);
        faultAt("U3", 0);
        faultAt("u", 1);
        faultAt("u;", 1);
        faultAt("u3", 2);
        faultAt("u3,s11", 2);
        faultAt("u33", 2);
        faultAt("u3;", 3);
        faultAt("u3;05", 3);
        faultAt("u3;5", 4);
        faultAt("u3;5;", 4);
        faultAt("u3;55", 5);
        faultAt("u3;55x", 5);
        faultAt("u3;555", 5);
        faultAt("u3;55;", 6);
        faultAt("u3;55,", 6);
        faultAt("u3;55,x", 6);
        faultAt("u3;55,5", 6);
        faultAt("u3;55,s", 7);
        faultAt("u3;55,s0", 7);
        faultAt("u3;55,s1", 8);
        faultAt("u3;55,s10", 8);
        faultAt("u3;55,s11;", 9);
        faultAt("u3;55,s11;55", 9);
        faultAt("u3;55,s11 ", 9);
        faultAt("u3;55,s11,", 10);
        faultAt("u3;11;22;33;44;", 14);
        faultAt("u3;11;22;33;44;55,s11", 14);
        faultAt("u3;11;22;33;44", 14);
        faultAt("u3;11;22;33;44,s11,k11,h11,s11,", 30);
        faultAt("u3;11,s11,k11,h11,s11,s11", 21);
        is("2 the shortest", Due.read(new QuietDuty(), "u0;10,s11"), 1);
        is("2 the longest", Due.read(new QuietDuty(), "u9;99;99;99;99,s99,k99,h99,s99"), 4);
        QuietDuty x = new QuietDuty();
        Due.row(x, 0, 2, 117 + 256, 48);
        is("2 ints are not cut", x.frontier(0, 2, 0, 2), -100);
        Due.row(x, 0, 0, 117 + 256, 48);
        is("2 bytes are", x.frontier(0, 0, 0, 2), -102);
    }

    private static void faultAt(String text, int place) {
        QuietDuty x = Due.at("u4;12,k34");
        is("2 " + text, Due.read(x, text), -100 - place);
        is("2 it changes nothing: " + text, x.many(2), 4);
        is("2 it changes nothing: " + text, x.many(1), 1);
        is("2 it changes nothing: " + text, x.ofSilence(0, 1), 3);
    }

    private static void promise2MakesAllAnew() {
        QuietDuty x = Due.at(FOUR);
        x.carry(0, 2);
        x.declare(1, false);
        x.hum(1, 5);
        x.law(2);
        x.free(8);
        x.reading(0, 5);
        x.tell(0);
        Due.row(x, 2, 2, 7);
        is("2 refused text", Due.read(x, "u3;"), -103);
        is("2 carrier stays", x.ofSilence(0, 5), 2);
        is("2 declared stays", x.ofSilence(1, 6), 0);
        is("2 law stays", x.many(3), 2);
        is("2 free stays", x.many(2), 8);
        is("2 readings stay", x.many(4), 1);
        is("2 new text", Due.read(x, "u5;11,s11,s11"), 2);
        is("2 carrier 0 has all", x.ofSilence(0, 5), 0);
        is("2 all is declared", x.ofSilence(1, 6), 1);
        is("2 no silence of before", x.ofSilence(2, 0), -1);
        is("2 no post of before", x.ofPost(1, 0), -1);
        is("2 nobody hums", x.hum(1, 0), 0);
        is("2 law", x.many(3), 7);
        is("2 free", x.many(2), 5);
        is("2 readings", x.many(4), 0);
        is("2 trace stays", x.trace(), 1);
        is("2 sheets stay", x.cell(2, 0, 2), 7);
        is("2 a third text", Due.read(x, "u0;12,k11"), 1);
        is("2 one post", x.many(1), 1);
        is("2 it is of this text", x.ofPost(0, 1), 2);
        is("2 duty at all is of this text", x.pack(-1), 2);
        is("2 one silence", x.many(0), 1);
        is("2 of this text", x.ofSilence(0, 0), 1);
        is("2 carrier 0 has it", x.ofSilence(0, 5), 0);
        is("2 it is declared", x.ofSilence(0, 6), 1);
        is("2 nobody hums", x.hum(1, 0), 0);
        is("2 law", x.many(3), 7);
        is("2 free", x.many(2), 0);
        is("2 readings", x.many(4), 0);
    }

    private static void promise3OfPost() {
        QuietDuty x = Due.at(FOUR);
        int[][] want = {{2, 5}, {3, 0}, {7, 9}};
        for (int p = 0; p < 3; p++) {
            is("3 rate", x.ofPost(p, 0), want[p][0]);
            is("3 ear", x.ofPost(p, 1), want[p][1]);
            is("3 outside", x.ofPost(p, 2), -2);
            is("3 outside", x.ofPost(p, -1), -2);
        }
        is("3 unknown", x.ofPost(3, 0), -1);
        is("3 unknown first", x.ofPost(-1, 2), -1);
        is("3 unknown", x.ofPost(HIGH, 0), -1);
    }

    private static void promise4OfSilence() {
        QuietDuty x = Due.at(FOUR);
        int[][] want = {{0, 4, 2, 2, 8, 0, 1, 1}, {1, 3, 1, 2, 6, 1, 1, 0}, {2, 5, 1, 4, 20, 2, 0, 1},
            {0, 9, 8, 8, 72, 0, 1, 1}};
        x.carry(1, 1);
        x.carry(2, 2);
        x.declare(2, false);
        x.law(5);
        for (int k = 0; k < 4; k++) {
            for (int what = 0; what < 8; what++) {
                is("4 silence " + k + " what " + what, x.ofSilence(k, what), want[k][what]);
            }
            is("4 outside", x.ofSilence(k, 8), -2);
            is("4 outside", x.ofSilence(k, -1), -2);
        }
        is("4 unknown", x.ofSilence(4, 0), -1);
        is("4 unknown first", x.ofSilence(-1, 8), -1);
        x.law(2);
        is("4 the bit of its own kind alone", x.ofSilence(2, 7), 0);
        is("4 a held one of the greatest", Due.at("u0;11,h99").ofSilence(0, 4), 180);
    }

    private static void promise5Free() {
        QuietDuty x = new QuietDuty();
        is("5 state", x.free(9), -3);
        is("5 outside first", x.free(10), -2);
        Due.read(x, FOUR);
        is("5 what it was", x.free(9), 3);
        is("5 what it was", x.free(0), 9);
        is("5 outside", x.free(-1), -2);
        is("5 outside", x.free(10), -2);
        is("5 it stays", x.many(2), 0);
        is("5 duty by it", x.duty(0), 21 * 8 * 2);
    }

    private static void promise6Law() {
        QuietDuty x = new QuietDuty();
        is("6 state", x.law(7), -3);
        is("6 outside first", x.law(8), -2);
        Due.read(x, FOUR);
        is("6 what it was", x.law(6), 7);
        is("6 what it was", x.law(1), 6);
        is("6 outside", x.law(-1), -2);
        is("6 outside", x.law(8), -2);
        is("6 it stays", x.many(3), 1);
        is("6 duty by plain ones", x.duty(0), (13 - 3) * 8 * 2);
        x.law(2);
        is("6 by kept ones", x.duty(0), 0);
        x.law(4);
        is("6 by held ones", x.duty(0), (5 - 3) * 4 * 2);
    }

    private static void promise7Carry() {
        QuietDuty x = new QuietDuty();
        is("7 no silence", x.carry(0, 0), -1);
        Due.read(x, FOUR);
        is("7 had it", x.carry(3, 2), 0);
        is("7 had it", x.carry(3, 1), 2);
        is("7 carrier 0 again", x.carry(3, 0), 1);
        is("7 had it", x.carry(3, 1), 0);
        is("7 no such carrier", x.carry(3, 3), -1);
        is("7 no such carrier", x.carry(3, -1), -1);
        is("7 no such silence", x.carry(4, 0), -1);
        is("7 no such silence", x.carry(-1, 0), -1);
        is("7 it stays", x.ofSilence(3, 5), 1);
        is("7 no other", x.ofSilence(2, 5), 0);
    }

    private static void promise8Declare() {
        QuietDuty x = new QuietDuty();
        is("8 no silence", x.declare(0, true), -1);
        Due.read(x, FOUR);
        is("8 it was so", x.declare(1, true), 0);
        is("8 not", x.declare(1, false), 1);
        is("8 it was so", x.declare(1, false), 0);
        is("8 it stays", x.ofSilence(1, 6), 0);
        is("8 no other", x.ofSilence(0, 6), 1);
        is("8 again", x.declare(1, true), 1);
        is("8 it stays", x.ofSilence(1, 6), 1);
        is("8 unknown", x.declare(4, true), -1);
        is("8 unknown", x.declare(-1, false), -1);
    }

    private static void promise9Hum() {
        QuietDuty x = new QuietDuty();
        is("9 state", x.hum(2, 9), -3);
        is("9 outside first", x.hum(2, 10), -2);
        is("9 unknown first", x.hum(3, 10), -1);
        Due.read(x, FOUR);
        is("9 what it was", x.hum(2, 9), 0);
        is("9 what it was", x.hum(2, 4), 9);
        is("9 another", x.hum(0, 1), 0);
        is("9 outside", x.hum(2, -1), -2);
        is("9 outside", x.hum(2, 10), -2);
        is("9 unknown", x.hum(-1, 0), -1);
        is("9 it stays", x.hum(2, 4), 4);
    }

    private static void promise10Duty() {
        QuietDuty x = Due.at(FOUR);
        is("10 all by one", x.duty(0), (21 - 3) * 8 * 2);
        is("10 by rate", x.duty(2), (21 - 3) * 8 * 7);
        x.carry(3, 1);
        is("10 each has its own free minutes", x.duty(0), ((12 - 3) * 4 + (9 - 3) * 8) * 2);
        x.carry(1, 2);
        is("10 just as long as is free", x.duty(1), ((9 - 3) * 4 + (9 - 3) * 8) * 3);
        x.declare(2, false);
        is("10 what is not declared gives no grade", x.duty(1), ((4 - 3) * 2 + (9 - 3) * 8) * 3);
        x.free(9);
        is("10 none below 0", x.duty(1), 0);
        is("10 unknown", x.duty(3), -1);
        is("10 unknown", x.duty(-1), -1);
        is("10 no frontier", new QuietDuty().duty(0), -1);
        is("10 the most", Due.at("u0;99,h99,h99,h99,h99").duty(0), 6480);
    }

    private static void promise11Clear() {
        QuietDuty x = Due.at(FOUR);
        clearIs(x, 0, 1, 1);
        x.declare(0, false);
        clearIs(x, 0, 1, 2);
        clearIs(x, 1, 1, 1);
        clearIs(x, 2, 1, 10);
        x.declare(2, false);
        clearIs(x, 0, 1, 4);
        x.carry(2, 1);
        x.hum(1, 3);
        clearIs(x, 0, 2, 5);
        x.hum(1, 9);
        clearIs(x, 0, 1, 2);
        x.hum(1, 0);
        x.law(3);
        clearIs(x, 0, 1, 2);
        is("11 unknown", x.clear(3, 0), LOST);
        is("11 unknown", x.clear(-1, 0), LOST);
        is("11 outside", x.clear(0, 2), LOST);
        is("11 outside", x.clear(0, -1), LOST);
        is("11 no frontier", new QuietDuty().clear(0, 0), LOST);
    }

    private static void clearIs(QuietDuty x, int p, long upper, long lower) {
        is("11 upper at " + p, x.clear(p, 0), upper);
        is("11 lower at " + p, x.clear(p, 1), lower);
    }

    private static void promise12Cost() {
        QuietDuty x = Due.at(FOUR);
        Due.row(x, 0, 1, 0, 1, 2, 0, 0, 1, 2, 2, 3, -1);
        costIs(x, 0, 0, 0, 1);
        costIs(x, 10, 0, 0, 1);
        costIs(x, 0, 3, 18 * 8 * 12, 1);
        x.declare(2, false);
        // Duty 16 - 3 minutes of grade 8; heard by 5 tenths, twice 20 times rate 2.
        costIs(x, 0, 1, 13 * 8 * 2 + 40, 1);
        costIs(x, 3, 2, 2 * 13 * 8 * 2 + 40 + 20, 1);
        // 5 tenths, then none by an ear of 0, then 9 tenths of the other half at rate 7.
        costIs(x, 0, 3, 13 * 8 * 12 + 40 + 126, 1);
        x.carry(2, 1);
        x.hum(1, 4);
        // 1 tenth at rate 2, 5 tenths of the rest at rate 7.
        costIs(x, 0, 3, 13 * 8 * 12 + 8 + 126, 1);
        costIs(x, 3, 2, (2 * 13 * 8 * 2) * 5 + 40 + 36, 5);
        x.law(3);
        costIs(x, 0, 3, 13 * 8 * 12, 1);
        costIs(x, 0, 8, 13 * 8 * (2 * 3 + 3 * 2 + 7 * 3), 1);
        promise12Wrong(x);
    }

    private static void costIs(QuietDuty x, int i, int n, long upper, long lower) {
        is("12 upper from " + i + ", " + n, x.cost(0, 1, i, n, 0), upper);
        is("12 lower from " + i + ", " + n, x.cost(0, 1, i, n, 1), lower);
    }

    private static void promise12Wrong(QuietDuty x) {
        lostBy(x, x.cost(4, 1, 0, 1, 0), 0);
        lostBy(x, x.cost(-1, 1, 0, 1, 0), 0);
        lostBy(x, x.cost(0, 3, 0, 1, 0), 0);
        lostBy(x, x.cost(0, 0, 0, 9, 0), 0);
        lostBy(x, x.cost(0, 0, 0, -1, 0), 0);
        lostBy(x, x.cost(0, 0, 0, 1, 2), 0);
        lostBy(x, x.cost(0, 0, 0, 1, -1), 0);
        lostBy(x, x.cost(0, 0, -1, 1, 0), 2);
        lostBy(x, x.cost(1, 0, -1, 1, 0), 1);
        lostBy(x, x.cost(0, 1, -1, 1, 0), 3);
        lostBy(x, x.cost(0, 1, 11, 0, 0), 3);
        lostBy(x, x.cost(0, 1, 9, 2, 0), 3);
        lostBy(x, x.cost(0, 1, HIGH, 8, 0), 3);
        lostBy(x, x.cost(0, 1, 8, 1, 0), 0);
        lostBy(x, x.cost(0, 1, 9, 1, 0), 0);
        QuietDuty none = new QuietDuty();
        lostBy(none, none.cost(0, 0, 0, 0, 0), 0);
    }

    /** It is lost, by a fault, or by a refusal (0), even if another fault was ahead of it. */
    private static void lostBy(QuietDuty x, long answer, int fault) {
        is("lost", answer, LOST);
        is("lost by fault", x.fault(), fault);
        x.put(3, 0, 0);
        x.sheet(3, 0, -1);
    }

    private static void promise13Say() {
        QuietDuty x = Due.at(FOUR);
        Due.row(x, 0, 0, 0, 1, 2, 3);
        is("13 an empty way: the least set", x.say(0, 0, 0, 0), 0);
        is("13 an ear of 0: declare none", x.say(0, 0, 1, 1), 0);
        // Declared it costs 6 minutes of grade 8 at rate 7; the others are cheaper at 9 tenths.
        is("13 the long plain one", x.say(0, 0, 2, 1), 8);
        is("13 declared stays", x.ofSilence(0, 6), 1);
        x.hum(0, 9);
        x.declare(1, false);
        is("13 who hums", x.say(0, 0, 2, 1), 0);
        is("13 declared stays", x.ofSilence(1, 6), 0);
        x.hum(0, 0);
        x.law(0);
        is("13 nothing is dutiable", x.say(0, 0, 0, 3), 0);
        x.law(7);
        is("13 unknown sheet", x.say(4, 3, 0, 0), -1);
        is("13 lane", x.say(0, 3, 0, 0), -2);
        is("13 n", x.say(0, 1, 0, 9), -2);
        is("13 n", x.say(0, 1, 0, -1), -2);
        is("13 cast", x.say(0, 1, -1, 1), -12);
        is("13 null", x.say(1, 1, -1, 1), -11);
        is("13 index", x.say(0, 0, 3, 2), -13);
        is("13 index", x.say(0, 0, 5, 0), -13);
        is("13 post", x.say(0, 0, 2, 2), -1);
        is("13 no fault", x.fault(), 0);
        QuietDuty none = new QuietDuty();
        is("13 state ahead of null", none.say(0, 0, 0, 0), -3);
        is("13 outside ahead of state", none.say(0, 0, 0, 9), -2);
        QuietDuty tie = Due.at("u1;15,s11,s11");
        Due.row(tie, 0, 0, 0);
        is("13 of several the least", tie.say(0, 0, 0, 1), 1);
        tie.free(2);
        is("13 all of them", tie.say(0, 0, 0, 1), 3);
    }

    private static void promise14Pack() {
        QuietDuty x = new QuietDuty();
        is("14 unknown first", x.pack(-2), -1);
        is("14 state", x.pack(-1), -3);
        is("14 state ahead of none", x.pack(4), -3);
        Due.read(x, FOUR);
        x.carry(0, 2);
        is("14 duty at all", x.pack(-1), ((9 - 3) * 8 + (4 + 3 - 3) * 2 + (5 - 3) * 4) * 12);
        int[] first = {0, 0, 1, 2};
        for (int k = 0; k < 4; k++) {
            is("14 carrier of " + k, x.pack(k), first[k]);
        }
        is("14 none", x.pack(4), -9);
        is("14 none", x.pack(HIGH), -9);
        is("14 unknown", x.pack(LOW), -1);
        is("14 carriers stay", x.ofSilence(0, 5), 2);
        is("14 carriers stay", x.ofSilence(3, 5), 0);
        x.declare(3, false);
        is("14 by what is declared", x.pack(-1), ((5 - 3) * 4 + (4 - 3) * 2) * 12);
        is("14 the first row", x.pack(3), 0);
        x.law(1);
        is("14 by what is dutiable", x.pack(-1), (4 - 3) * 2 * 12);
        is("14 the first row", x.pack(2), 0);
        is("14 the first row", x.pack(3), 0);
    }

    private static void promise15Road() {
        is("15 state", new QuietDuty().road(), -3);
        QuietDuty x = Due.at(FOUR);
        is("15 the least rate", x.road(), 0);
        for (int k = 0; k < 4; k++) {
            x.declare(k, false);
        }
        is("15 an ear of 0", x.road(), 1);
        x.hum(0, 9);
        is("15 all alike", x.road(), 0);
        is("15 of several the least", Due.at("u0;20;10;10,s11").road(), 1);
        QuietDuty tie = Due.at("u0;51;15,s11");
        tie.declare(0, false);
        is("15 alike by rate and ear", tie.road(), 0);
        QuietDuty part = Due.at("u0;39;41,s11");
        part.declare(0, false);
        is("15 the last", part.road(), 1);
    }

    private static void promise16Worth() {
        QuietDuty x = Due.at(FOUR);
        Due.row(x, 0, 2, 0, 1, 2, 3);
        is("16 of one way", x.worth(0, 0, 2, 0, 1), 4 * 8 * 2 * 100000000L);
        is("16 the greatest grade", x.worth(3, 0, 2, 0, 1), (18 * 8 - 9 * 4) * 2 * 100000000L);
        is("16 no way", x.worth(3, 0, 2, 4, 0), 0);
        x.declare(3, false);
        x.hum(0, 4);
        is("16 not declared", x.worth(3, 0, 2, 0, 3), 144 * 2 * 10000000L + 144 * 7 * 45000000L);
        is("16 another", x.worth(2, 0, 2, 1, 1), (9 * 4 - 4 * 2) * 3 * 100000000L);
        is("16 all is as it was", x.cost(0, 2, 1, 1, 0), 9 * 4 * 3);
        x.law(6);
        is("16 not dutiable", x.worth(3, 0, 2, 0, 3), 0);
        lostBy(x, x.worth(4, 0, 2, 0, 1), 0);
        lostBy(x, x.worth(-1, 0, 0, 0, 1), 0);
        lostBy(x, x.worth(0, 4, 2, 0, 1), 0);
        lostBy(x, x.worth(0, 0, 3, 0, 1), 0);
        lostBy(x, x.worth(0, 0, 2, 0, 9), 0);
        lostBy(x, x.worth(0, 0, 2, 0, -1), 0);
        lostBy(x, x.worth(0, 0, 1, -1, 1), 2);
        lostBy(x, x.worth(0, 1, 1, -1, 1), 1);
        lostBy(x, x.worth(0, 0, 2, -1, 1), 3);
        lostBy(x, x.worth(0, 0, 2, 5, 0), 3);
        lostBy(x, x.worth(0, 0, 2, 3, 1), 0);
        QuietDuty none = new QuietDuty();
        lostBy(none, none.worth(0, 0, 0, 0, 0), 0);
    }

    private static void promise17Reading() {
        QuietDuty x = new QuietDuty();
        is("17 no post", x.reading(0, 0), -1);
        Due.read(x, FOUR);
        is("17 unknown first", x.reading(3, 100000), -1);
        is("17 unknown", x.reading(-1, 0), -1);
        is("17 outside", x.reading(0, -1), -2);
        is("17 outside", x.reading(0, 100000), -2);
        for (int r = 0; r < 8; r++) {
            is("17 its number", x.reading(r % 3, r % 2 * 99999), r);
        }
        is("17 outside ahead of full", x.reading(0, 100000), -2);
        is("17 full", x.reading(0, 0), -4);
        is("17 eight", x.many(4), 8);
    }

    private static void promise18Back() {
        QuietDuty x = Due.at(FOUR);
        x.reading(0, 288);
        x.reading(1, 432);
        x.reading(2, 5);
        is("18 outside", x.back(4), -2);
        is("18 outside", x.back(-1), -2);
        is("18 outside", x.back(LOW), -2);
        is("18 none", x.back(0), 3);
        is("18 not so", x.said(0), 0);
        is("18 the last one", x.back(1), 2);
        is("18 so", x.said(0), 1);
        is("18 the number is free again", x.reading(0, 288), 2);
        is("18 all", x.back(3), 0);
    }

    private static void promise19Said() {
        QuietDuty x = new QuietDuty();
        is("19 outside first", x.said(2), -2);
        is("19 state", x.said(0), -3);
        Due.read(x, FOUR);
        is("19 outside", x.said(-1), -2);
        is("19 all sets", x.said(0), 16);
        is("19 the least", x.said(1), 0);
        x.reading(0, 0);
        is("19 none, or the kept one alone", x.said(0), 2);
        is("19 the least", x.said(1), 0);
        x.back(1);
        x.reading(1, (9 - 3) * 8 * 3);
        is("19 the long one", x.said(0), 1);
        is("19 the least", x.said(1), 8);
        x.law(5);
        is("19 the kept one is not dutiable", x.said(0), 2);
        is("19 the least", x.said(1), 8);
        x.reading(0, 1);
        is("19 none", x.said(0), 0);
        is("19 none", x.said(1), -9);
        is("19 declared stays", x.ofSilence(0, 6), 1);
    }

    private static void promise20Frees() {
        is("20 state", new QuietDuty().frees(), -3);
        QuietDuty x = Due.at(FOUR);
        is("20 all", x.frees(), 1023);
        x.reading(0, 12 * 8 * 2);
        is("20 nine", x.frees(), 1 << 9);
        x.back(1);
        x.law(2);
        x.reading(0, 0);
        is("20 3 and more", x.frees(), 1023 - 7);
        x.reading(1, 6);
        is("20 none", x.frees(), 0);
        x.back(2);
        x.reading(1, 18);
        is("20 0", x.frees(), 1);
        is("20 it stays", x.many(2), 3);
    }

    private static void promise21Laws() {
        is("21 state", new QuietDuty().laws(), -3);
        QuietDuty x = Due.at(FOUR);
        is("21 all", x.laws(), 255);
        x.reading(0, 0);
        is("21 none or kept", x.laws(), 1 << 0 | 1 << 2);
        x.back(1);
        x.reading(0, 288);
        is("21 all kinds", x.laws(), 1 << 7);
        x.declare(1, false);
        x.back(1);
        x.reading(0, 15 * 8 * 2);
        is("21 with or without kept", x.laws(), 1 << 7 | 1 << 5);
        x.reading(1, 1);
        is("21 none", x.laws(), 0);
        is("21 it stays", x.many(3), 7);
        x.law(2);
        x.laws();
        is("21 it stays", x.many(3), 2);
    }

    private static void promise22Kinds() {
        is("22 no silence", new QuietDuty().kinds(0), -1);
        QuietDuty x = Due.at("u0;10;20,k23,s31");
        is("22 all", x.kinds(0), 7);
        x.reading(0, 5 * 3);
        is("22 plain", x.kinds(0), 1);
        is("22 it alone is otherwise", x.kinds(1), 0);
        x.back(1);
        x.reading(1, 5 * 8 * 2);
        is("22 held", x.kinds(0), 4);
        x.back(1);
        x.reading(0, 20);
        is("22 the other one's grade is less", x.kinds(1), 7);
        x.back(1);
        x.law(5);
        x.reading(0, 3);
        is("22 not dutiable as kept", x.kinds(0), 2);
        is("22 unknown", x.kinds(2), -1);
        is("22 unknown", x.kinds(-1), -1);
        is("22 it stays", x.ofSilence(0, 0), 1);
    }

    private static void promise23Odds() {
        QuietDuty x = Due.at(FOUR);
        x.declare(2, false);
        oddsAre(x, 0, 0, 1, 1);
        oddsAre(x, 0, 1, 7, 8);
        oddsAre(x, 0, 200, 1, 4);
        oddsAre(x, 0, 288, 1, 16);
        oddsAre(x, 0, 289, 0, 1);
        oddsAre(x, 2, 99999, 0, 1);
        is("23 unknown", x.odds(3, 0, 0), LOST);
        is("23 unknown", x.odds(-1, 0, 0), LOST);
        is("23 outside", x.odds(0, -1, 0), LOST);
        is("23 outside", x.odds(0, 100000, 0), LOST);
        is("23 outside", x.odds(0, 0, 2), LOST);
        is("23 outside", x.odds(0, 0, -1), LOST);
        is("23 declared stays", x.ofSilence(2, 6), 0);
        is("23 no post", new QuietDuty().odds(0, 0, 0), LOST);
    }

    private static void oddsAre(QuietDuty x, int p, int v, long upper, long lower) {
        is("23 upper of " + v, x.odds(p, v, 0), upper);
        is("23 lower of " + v, x.odds(p, v, 1), lower);
    }

    private static void promise24Sheet() {
        QuietDuty x = new QuietDuty();
        is("24 most", x.sheet(3, 2, 60), 1);
        is("24 last cell", x.put(3, 59, -5), 1);
        is("24 unknown first", x.sheet(4, 3, 61), -1);
        is("24 unknown", x.sheet(-1, 0, 0), -1);
        is("24 lane", x.sheet(3, 3, -1), -2);
        is("24 lane", x.sheet(3, -1, 0), -2);
        is("24 above 60", x.sheet(3, 0, 61), -2);
        is("24 above 60", x.sheet(3, 0, HIGH), -2);
        is("24 size", x.sheet(3, 0, -1), -14);
        is("24 fault", x.fault(), 4);
        is("24 size", x.sheet(3, 0, LOW), -14);
        is("24 it stays", x.cell(3, 59, 2), -5);
        is("24 a new row", x.sheet(3, 2, 60), 1);
        is("24 of 0", x.cell(3, 59, 2), 0);
        is("24 an empty one", x.sheet(3, 1, 0), 1);
        is("24 has no cell", x.put(3, 0, 0), -13);
    }

    private static void promise25Lose() {
        QuietDuty x = new QuietDuty();
        is("25 had nothing", x.lose(0), 0);
        x.sheet(0, 0, 0);
        is("25 an empty row is something", x.lose(0), 1);
        is("25 had nothing", x.lose(0), 0);
        is("25 null", x.put(0, 0, 0), -11);
        is("25 unknown", x.lose(4), -1);
        is("25 unknown", x.lose(-1), -1);
        is("25 it names no fault", x.fault(), 1);
    }

    private static void promise26Put() {
        QuietDuty x = new QuietDuty();
        is("26 unknown", x.put(4, 0, 0), -1);
        is("26 unknown", x.put(-1, 0, 0), -1);
        is("26 null ahead of index", x.put(0, -1, 0), -11);
        x.sheet(0, 0, 2);
        x.sheet(1, 1, 2);
        x.sheet(2, 2, 2);
        is("26 index", x.put(0, 2, 0), -13);
        is("26 index", x.put(0, -1, 0), -13);
        is("26 index", x.put(0, HIGH, 0), -13);
        int[] values = {0, 127, 128, 255, 256, -129, 32767, 32768, 65535, -32769, HIGH, LOW};
        for (int v : values) {
            is("26 byte " + v, x.put(0, 1, v), 1);
            is("26 short " + v, x.put(1, 1, v), 1);
            is("26 int " + v, x.put(2, 1, v), 1);
            is("26 byte " + v, x.cell(0, 1, 0), (byte) v);
            is("26 short " + v, x.cell(1, 1, 1), (short) v);
            is("26 int " + v, x.cell(2, 1, 2), v);
            is("26 no other", x.cell(2, 0, 2), 0);
        }
    }

    private static void promise27Cell() {
        QuietDuty x = new QuietDuty();
        Due.row(x, 1, 1, 5, 6, 7);
        is("27 cell", x.cell(1, 0, 1), 5);
        is("27 cell", x.cell(1, 2, 1), 7);
        is("27 no fault", x.fault(), 0);
        lostBy(x, x.cell(4, 0, 1), 0);
        lostBy(x, x.cell(-1, 0, 1), 0);
        lostBy(x, x.cell(1, -1, 3), 0);
        lostBy(x, x.cell(1, -1, -1), 0);
        lostBy(x, x.cell(1, -1, 0), 2);
        lostBy(x, x.cell(1, -1, 2), 2);
        lostBy(x, x.cell(0, -1, 0), 1);
        lostBy(x, x.cell(1, -1, 1), 3);
        lostBy(x, x.cell(1, 3, 1), 3);
    }

    private static void promise28Copy() {
        QuietDuty x = new QuietDuty();
        Due.row(x, 0, 1, 1, 2, 3, 4, 5);
        Due.row(x, 1, 1, 0, 0, 0);
        Due.row(x, 2, 2, 0, 0, 0);
        is("28 to another", x.copy(0, 3, 1, 1, 2), 2);
        rowIs(x, 1, 1, 0, 4, 5);
        is("28 forward in the same", x.copy(0, 0, 0, 1, 4), 4);
        rowIs(x, 0, 1, 1, 1, 2, 3, 4);
        is("28 back in the same", x.copy(0, 1, 0, 0, 4), 4);
        rowIs(x, 0, 1, 1, 2, 3, 4, 4);
        is("28 none, at the ends", x.copy(0, 5, 1, 3, 0), 0);
        is("28 unknown", x.copy(4, 0, 3, 0, 1), -1);
        is("28 unknown", x.copy(3, 0, 4, 0, 1), -1);
        is("28 unknown", x.copy(-1, 0, 0, 0, 1), -1);
        is("28 null", x.copy(3, -1, 0, -1, -1), -11);
        is("28 null of the other", x.copy(0, -1, 3, -1, -1), -11);
        is("28 cast ahead of index", x.copy(0, -1, 2, -1, -1), -12);
        is("28 i", x.copy(0, -1, 1, 0, 0), -13);
        is("28 i", x.copy(0, 6, 1, 0, 0), -13);
        is("28 j", x.copy(0, 0, 1, -1, 0), -13);
        is("28 j", x.copy(0, 0, 1, 4, 0), -13);
        is("28 n", x.copy(0, 0, 1, 0, -1), -13);
        is("28 n beyond the first", x.copy(0, 4, 1, 0, 2), -13);
        is("28 n beyond the other", x.copy(0, 0, 1, 2, 2), -13);
        is("28 n that wraps", x.copy(0, 1, 1, 1, HIGH), -13);
        rowIs(x, 1, 1, 0, 4, 5);
    }

    private static void rowIs(QuietDuty x, int sheet, int lane, int... want) {
        for (int i = 0; i < want.length; i++) {
            is("28 cell " + i + " of sheet " + sheet, x.cell(sheet, i, lane), want[i]);
        }
    }

    private static void promise29Tell() {
        QuietDuty x = Due.at(FOUR);
        is("29 silence", x.tell(3), 9);
        is("29 its body", x.trace(), 1);
        is("29 kept", x.tell(1), 103);
        is("29 its bodies", x.trace(), bodies(1, 2, 1));
        is("29 held", x.tell(2), 110);
        is("29 its bodies", x.trace(), bodies(1, 2, 1, 3, 2, 1, 1));
        is("29 unknown", x.tell(4), -1);
        is("29 unknown", x.tell(-1), -1);
        is("29 refused: no body", x.trace(), bodies(1, 2, 1, 3, 2, 1, 1));
    }

    private static int bodies(int... numbers) {
        int trace = 0;
        for (int number : numbers) {
            trace = trace * 31 + number;
        }
        return trace;
    }

    private static void promise30Hush() {
        QuietDuty x = Due.at(FOUR);
        is("30 silence", x.hush(3), 3);
        is("30 kept", x.hush(1), 1);
        is("30 held", x.hush(2), 80);
        is("30 bodies", x.trace(), bodies(4, 4, 5));
        is("30 unknown", x.hush(4), -1);
        is("30 unknown", x.hush(-1), -1);
        is("30 bodies", x.trace(), bodies(4, 4, 5));
    }

    private static void promise31As() {
        QuietDuty x = Due.at(FOUR);
        int[] kinds = {0, 1, 2, 0};
        for (int k = 0; k < 4; k++) {
            for (int kind = 0; kind < 3; kind++) {
                is("31 silence " + k + " as " + kind, x.as(k, kind), kind <= kinds[k] ? 1 : -12);
                is("31 fault", x.fault(), kind <= kinds[k] ? 0 : 2);
            }
        }
        is("31 outside", x.as(0, 3), -2);
        is("31 refused: no fault", x.fault(), 0);
        is("31 outside", x.as(0, -1), -2);
        x.as(0, 2);
        is("31 unknown first", x.as(4, 3), -1);
        is("31 refused: no fault", x.fault(), 0);
        is("31 unknown", x.as(-1, 0), -1);
    }

    private static void promise32Trace() {
        QuietDuty x = Due.at(FOUR);
        int want = 0;
        for (int n = 0; n < 20; n++) {
            x.hush(2);
            want = want * 31 + 5;
            is("32 trace wraps", x.trace(), want);
        }
        is("32 trace of itself changes nothing", x.trace(), want);
    }

    private static void promise33Fault() {
        QuietDuty x = Due.at(FOUR);
        x.lose(0);
        is("33 none", x.fault(), 0);
        x.put(0, 0, 0);
        is("33 null", x.fault(), 1);
        is("33 told again", x.fault(), 1);
        namesNoFault(x);
        is("33 calls that name none leave it", x.fault(), 1);
        x.put(4, 0, 0);
        is("33 a refused one does not", x.fault(), 0);
        x.sheet(0, 0, -1);
        is("33 size", x.fault(), 4);
        x.sheet(0, 0, 1);
        is("33 one that comes to none", x.fault(), 0);
        x.cell(0, 0, 1);
        is("33 cast", x.fault(), 2);
        x.cell(0, 0, 0);
        is("33 cell", x.fault(), 0);
        x.copy(0, 0, 0, 0, 2);
        is("33 index", x.fault(), 3);
        x.copy(0, 0, 0, 0, 1);
        is("33 copy", x.fault(), 0);
        x.as(0, 1);
        x.as(0, 0);
        is("33 as", x.fault(), 0);
        x.as(0, 1);
        x.put(0, 0, 0);
        is("33 put", x.fault(), 0);
        x.as(0, 1);
        x.cost(0, 0, 0, 1, 0);
        is("33 cost", x.fault(), 0);
        x.as(0, 1);
        x.say(0, 0, 0, 1);
        is("33 say", x.fault(), 0);
        x.as(0, 1);
        x.worth(0, 0, 0, 0, 1);
        is("33 worth", x.fault(), 0);
        x.as(0, 1);
        x.frontier(0, 0, 0, 1);
        is("33 frontier", x.fault(), 0);
    }

    private static void namesNoFault(QuietDuty x) {
        x.ofPost(9, 9);
        x.ofSilence(0, 0);
        x.free(1);
        x.law(9);
        x.carry(0, 9);
        x.declare(0, true);
        x.hum(0, 0);
        x.duty(0);
        x.clear(9, 9);
        x.pack(0);
        x.road();
        x.reading(0, 0);
        x.back(1);
        x.said(9);
        x.frees();
        x.laws();
        x.kinds(9);
        x.odds(9, 9, 9);
        x.lose(9);
        x.tell(0);
        x.hush(0);
        x.trace();
        x.many(9);
    }

    private static void promise34Many() {
        QuietDuty x = new QuietDuty();
        is("34 without a frontier", x.many(3), 0);
        Due.read(x, FOUR);
        x.law(3);
        x.free(6);
        x.reading(0, 1);
        x.reading(0, 1);
        int[] want = {4, 3, 6, 3, 2};
        for (int what = 0; what < 5; what++) {
            is("34 many " + what, x.many(what), want[what]);
        }
        is("34 outside", x.many(5), -2);
        is("34 outside", x.many(-1), -2);
    }

    private PromisesTest() {
    }
}
