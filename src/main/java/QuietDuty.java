import java.util.Arrays;

/**
 * A frontier at which silence is dutiable: silences and posts told in a text, duties, ways and what
 * they cost, what to declare, and what can be known from what was paid. The words in the comments
 * (SHEET, POST, WAY ..) are those of the document.
 */
public final class QuietDuty {
    public static final int UNKNOWN = -1, OUTSIDE = -2, STATE = -3, FULL = -4, NONE = -9;
    public static final long LOST = Long.MIN_VALUE;

    private static final int FAULT_NULL = 1, FAULT_CAST = 2, FAULT_INDEX = 3, FAULT_SIZE = 4;
    private static final int SHEETS = 4, LANES = 3, MOST_CELLS = 60;
    private static final int MOST_POSTS = 4, MOST_SILENCES = 4, CARRIERS = 3, KINDS = 3;
    private static final int MOST_FREE = 9, MOST_HUM = 9, MOST_LAW = 7;
    private static final int MOST_WAY = 8, MOST_READINGS = 8, MOST_PAID = 99999;
    private static final int PLAIN = 0, KEPT = 1, HELD = 2;

    /** Tenths of tenths along the longest WAY: with it every mean is a whole number of parts. */
    private static final long PARTS = 100000000L;

    private final Sheet[] sheets;
    private final TextReader reader;
    private final Way way;
    private Border border;
    private Border spare;
    private int traceSoFar;
    private int latestFault;

    public QuietDuty() {
        sheets = new Sheet[SHEETS];
        for (int k = 0; k < SHEETS; k++) {
            sheets[k] = new Sheet();
        }
        reader = new TextReader();
        way = new Way();
        border = new Border();
        spare = new Border();
    }

    // ---- 1 the frontier

    public int frontier(int sheet, int lane, int i, int n) {
        int refusal = refusalOfRow(sheet, lane);
        if (refusal != 0) {
            return refused(refusal);
        }
        Sheet from = sheets[sheet];
        int fault = from.faultAs(lane);
        if (fault == 0 && n < 0) {
            fault = FAULT_SIZE;
        }
        if (fault == 0 && !from.hasCells(i, n)) {
            fault = FAULT_INDEX;
        }
        if (fault != 0) {
            return faulted(fault);
        }
        latestFault = 0;
        if (!reader.readInto(spare, from, i, n)) {
            return -100 - reader.place();
        }
        Border taken = spare;
        spare = border;
        border = taken;
        return border.silences;
    }

    public int ofPost(int p, int what) {
        if (!border.hasPost(p)) {
            return UNKNOWN;
        }
        switch (what) {
            case 0: return border.rate[p];
            case 1: return border.ear[p];
            default: return OUTSIDE;
        }
    }

    public int ofSilence(int k, int what) {
        if (!border.hasSilence(k)) {
            return UNKNOWN;
        }
        switch (what) {
            case 0: return border.kind[k];
            case 1: return border.minutes[k];
            case 2: return border.fineness[k];
            case 3: return border.gradeOf(k);
            case 4: return border.weightOf(k);
            case 5: return border.carrier[k];
            case 6: return border.isDeclared(k) ? 1 : 0;
            case 7: return border.isDutiable(k) ? 1 : 0;
            default: return OUTSIDE;
        }
    }

    public int free(int v) {
        if (!isWithin(v, 0, MOST_FREE)) {
            return OUTSIDE;
        }
        if (border.isMissing()) {
            return STATE;
        }
        int was = border.freeMinutes;
        border.freeMinutes = v;
        return was;
    }

    public int law(int v) {
        if (!isWithin(v, 0, MOST_LAW)) {
            return OUTSIDE;
        }
        if (border.isMissing()) {
            return STATE;
        }
        int was = border.dutiableKinds;
        border.dutiableKinds = v;
        return was;
    }

    public int carry(int k, int who) {
        if (!border.hasSilence(k) || !isWithin(who, 0, CARRIERS - 1)) {
            return UNKNOWN;
        }
        int had = border.carrier[k];
        border.carrier[k] = who;
        return had;
    }

    public int declare(int k, boolean is) {
        if (!border.hasSilence(k)) {
            return UNKNOWN;
        }
        if (border.isDeclared(k) == is) {
            return 0;
        }
        border.declared ^= 1 << k;
        return 1;
    }

    public int hum(int who, int v) {
        if (!isWithin(who, 0, CARRIERS - 1)) {
            return UNKNOWN;
        }
        if (!isWithin(v, 0, MOST_HUM)) {
            return OUTSIDE;
        }
        if (border.isMissing()) {
            return STATE;
        }
        int was = border.humming[who];
        border.humming[who] = v;
        return was;
    }

    // ---- 2 duties

    public int duty(int p) {
        if (!border.hasPost(p)) {
            return UNKNOWN;
        }
        return border.dutyAt(p);
    }

    public long clear(int p, int which) {
        if (!border.hasPost(p) || !isWithin(which, 0, 1)) {
            return LOST;
        }
        long unheard = 1;
        long all = 1;
        for (int k = 0; k < border.silences; k++) {
            unheard *= 10 - border.tenthsHeard(k, p);
            all *= 10;
        }
        return leastTerms(unheard, all, which);
    }

    public long cost(int sheet, int lane, int i, int n, int which) {
        if (!isWithin(which, 0, 1)) {
            return lostUnfaulted();
        }
        if (takeWay(sheet, lane, i, n) < 0) {
            return LOST;
        }
        return leastTerms(way.costIn(border), PARTS, which);
    }

    // ---- 3 what to declare, who carries which

    public int say(int sheet, int lane, int i, int n) {
        int answer = takeWay(sheet, lane, i, n);
        if (answer < 0) {
            return answer;
        }
        return cheapestDeclared();
    }

    public int pack(int k) {
        if (k < -1) {
            return UNKNOWN;
        }
        if (border.isMissing()) {
            return STATE;
        }
        if (k >= border.silences) {
            return NONE;
        }
        int was = border.carrierRow();
        border.setCarrierRow(cheapestCarrierRow());
        int answer = k < 0 ? border.dutyAtAll() : border.carrier[k];
        border.setCarrierRow(was);
        return answer;
    }

    public int road() {
        if (border.isMissing()) {
            return STATE;
        }
        int best = 0;
        long least = Long.MAX_VALUE;
        for (int p = 0; p < border.posts; p++) {
            way.begin();
            way.goOn(p);
            long costs = way.costIn(border);
            if (costs < least) {
                least = costs;
                best = p;
            }
        }
        return best;
    }

    public long worth(int k, int sheet, int lane, int i, int n) {
        if (!border.hasSilence(k)) {
            return lostUnfaulted();
        }
        if (takeWay(sheet, lane, i, n) < 0) {
            return LOST;
        }
        long with = way.costIn(border);
        border.leftOut = k;
        long without = way.costIn(border);
        border.leftOut = NONE;
        return with - without;
    }

    // ---- 4 what was paid

    public int reading(int p, int v) {
        if (!border.hasPost(p)) {
            return UNKNOWN;
        }
        if (!isWithin(v, 0, MOST_PAID)) {
            return OUTSIDE;
        }
        if (border.readings >= MOST_READINGS) {
            return FULL;
        }
        int number = border.readings;
        border.readPost[number] = p;
        border.readDuty[number] = v;
        border.readings = number + 1;
        return number;
    }

    public int back(int k) {
        if (!isWithin(k, 0, border.readings)) {
            return OUTSIDE;
        }
        border.readings -= k;
        return border.readings;
    }

    public int said(int what) {
        if (!isWithin(what, 0, 1)) {
            return OUTSIDE;
        }
        if (border.isMissing()) {
            return STATE;
        }
        int was = border.declared;
        int count = 0;
        int least = NONE;
        for (int set = border.allSilences(); set >= 0; set--) {
            border.declared = set;
            if (border.readingsAreSo()) {
                count++;
                least = set;
            }
        }
        border.declared = was;
        return what == 0 ? count : least;
    }

    public int frees() {
        if (border.isMissing()) {
            return STATE;
        }
        int was = border.freeMinutes;
        int found = 0;
        for (int v = 0; v <= MOST_FREE; v++) {
            border.freeMinutes = v;
            if (border.readingsAreSo()) {
                found |= 1 << v;
            }
        }
        border.freeMinutes = was;
        return found;
    }

    public int laws() {
        if (border.isMissing()) {
            return STATE;
        }
        int was = border.dutiableKinds;
        int found = 0;
        for (int v = 0; v <= MOST_LAW; v++) {
            border.dutiableKinds = v;
            if (border.readingsAreSo()) {
                found |= 1 << v;
            }
        }
        border.dutiableKinds = was;
        return found;
    }

    public int kinds(int k) {
        if (!border.hasSilence(k)) {
            return UNKNOWN;
        }
        int was = border.kind[k];
        int found = 0;
        for (int v = 0; v < KINDS; v++) {
            border.kind[k] = v;
            if (border.readingsAreSo()) {
                found |= 1 << v;
            }
        }
        border.kind[k] = was;
        return found;
    }

    public long odds(int p, int v, int which) {
        if (!border.hasPost(p) || !isWithin(v, 0, MOST_PAID) || !isWithin(which, 0, 1)) {
            return LOST;
        }
        int was = border.declared;
        int all = border.allSilences();
        int count = 0;
        for (int set = 0; set <= all; set++) {
            border.declared = set;
            if (border.dutyAt(p) >= v) {
                count++;
            }
        }
        border.declared = was;
        return leastTerms(count, all + 1, which);
    }

    // ---- 5 sheets, parts

    public int sheet(int k, int lane, int n) {
        int refusal = refusalOfRow(k, lane);
        if (refusal == 0 && n > MOST_CELLS) {
            refusal = OUTSIDE;
        }
        if (refusal != 0) {
            return refused(refusal);
        }
        if (n < 0) {
            return faulted(FAULT_SIZE);
        }
        latestFault = 0;
        sheets[k].begin(lane, n);
        return 1;
    }

    public int lose(int k) {
        if (!isSheet(k)) {
            return UNKNOWN;
        }
        if (!sheets[k].hasRow()) {
            return 0;
        }
        sheets[k].drop();
        return 1;
    }

    public int put(int k, int i, int v) {
        if (!isSheet(k)) {
            return refused(UNKNOWN);
        }
        Sheet to = sheets[k];
        if (!to.hasRow()) {
            return faulted(FAULT_NULL);
        }
        if (!to.hasCell(i)) {
            return faulted(FAULT_INDEX);
        }
        latestFault = 0;
        to.cells[i] = to.cut(v);
        return 1;
    }

    public long cell(int k, int i, int lane) {
        if (refusalOfRow(k, lane) != 0) {
            return lostUnfaulted();
        }
        Sheet from = sheets[k];
        int fault = from.faultAs(lane);
        if (fault == 0 && !from.hasCell(i)) {
            fault = FAULT_INDEX;
        }
        latestFault = fault;
        return fault != 0 ? LOST : from.cells[i];
    }

    public int copy(int k, int i, int other, int j, int n) {
        if (!isSheet(k) || !isSheet(other)) {
            return refused(UNKNOWN);
        }
        Sheet from = sheets[k];
        Sheet to = sheets[other];
        if (!from.hasRow() || !to.hasRow()) {
            return faulted(FAULT_NULL);
        }
        if (from.lane != to.lane) {
            return faulted(FAULT_CAST);
        }
        if (!from.hasCells(i, n) || !to.hasCells(j, n)) {
            return faulted(FAULT_INDEX);
        }
        latestFault = 0;
        System.arraycopy(from.cells, i, to.cells, j, n);
        return n;
    }

    public int tell(int k) {
        if (!border.hasSilence(k)) {
            return UNKNOWN;
        }
        int minutes = border.minutes[k];
        switch (border.kind[k]) {
            case HELD: return heldTells(minutes);
            case KEPT: return keptTells(minutes);
            default: return silenceTells(minutes);
        }
    }

    public int hush(int k) {
        if (!border.hasSilence(k)) {
            return UNKNOWN;
        }
        if (border.kind[k] == HELD) {
            leave(5);
            return 80;
        }
        leave(4);
        return k;
    }

    public int as(int k, int kind) {
        if (!border.hasSilence(k)) {
            return refused(UNKNOWN);
        }
        if (!isWithin(kind, PLAIN, HELD)) {
            return refused(OUTSIDE);
        }
        // Each kind is also one of every kind with a lower number.
        if (border.kind[k] < kind) {
            return faulted(FAULT_CAST);
        }
        latestFault = 0;
        return 1;
    }

    public int trace() {
        return traceSoFar;
    }

    public int fault() {
        return latestFault;
    }

    public int many(int what) {
        switch (what) {
            case 0: return border.silences;
            case 1: return border.posts;
            case 2: return border.freeMinutes;
            case 3: return border.dutiableKinds;
            case 4: return border.readings;
            default: return OUTSIDE;
        }
    }

    // ---- what the calls share

    private static boolean isWithin(int v, int low, int high) {
        return v >= low && v <= high;
    }

    private static boolean isSheet(int k) {
        return isWithin(k, 0, SHEETS - 1);
    }

    private static int refusalOfRow(int sheet, int lane) {
        if (!isSheet(sheet)) {
            return UNKNOWN;
        }
        return isWithin(lane, 0, LANES - 1) ? 0 : OUTSIDE;
    }

    /** A call that names FAULTS and is refused came to none of them. */
    private int refused(int refusal) {
        latestFault = 0;
        return refusal;
    }

    private long lostUnfaulted() {
        latestFault = 0;
        return LOST;
    }

    private int faulted(int fault) {
        latestFault = fault;
        return -10 - fault;
    }

    /** The WAY becomes n cells of a SHEET: 0, or what a call answers that can't take them. */
    private int takeWay(int sheet, int lane, int i, int n) {
        int refusal = refusalOfRow(sheet, lane);
        if (refusal == 0 && !isWithin(n, 0, MOST_WAY)) {
            refusal = OUTSIDE;
        }
        if (refusal == 0 && border.isMissing()) {
            refusal = STATE;
        }
        if (refusal != 0) {
            return refused(refusal);
        }
        Sheet from = sheets[sheet];
        int fault = from.faultAs(lane);
        if (fault == 0 && !from.hasCells(i, n)) {
            fault = FAULT_INDEX;
        }
        if (fault != 0) {
            return faulted(fault);
        }
        latestFault = 0;
        way.begin();
        for (int c = i; c < i + n; c++) {
            if (!border.hasPost(from.cells[c])) {
                return UNKNOWN;
            }
            way.goOn(from.cells[c]);
        }
        return 0;
    }

    private int cheapestDeclared() {
        int was = border.declared;
        int best = 0;
        long least = Long.MAX_VALUE;
        int all = border.allSilences();
        for (int set = 0; set <= all; set++) {
            border.declared = set;
            long costs = way.costIn(border);
            if (costs < least) {
                least = costs;
                best = set;
            }
        }
        border.declared = was;
        return best;
    }

    private int cheapestCarrierRow() {
        int was = border.carrierRow();
        int best = 0;
        int least = Integer.MAX_VALUE;
        int rows = border.carrierRows();
        for (int row = 0; row < rows; row++) {
            border.setCarrierRow(row);
            int costs = border.dutyAtAll();
            if (costs < least) {
                least = costs;
                best = row;
            }
        }
        border.setCarrierRow(was);
        return best;
    }

    /** The upper (which 0) or the lower number of a share of two numbers, not below 0. */
    private static long leastTerms(long upper, long lower, int which) {
        long common = commonDivisor(upper, lower);
        long number = which == 0 ? upper : lower;
        return common == 0 ? number : number / common;
    }

    private static long commonDivisor(long a, long b) {
        long more = a;
        long less = b;
        // Two longs never need as many as a hundred steps.
        for (int step = 0; step < 100 && less != 0; step++) {
            long rest = more % less;
            more = less;
            less = rest;
        }
        return more;
    }

    private void leave(int number) {
        traceSoFar = 31 * traceSoFar + number;
    }

    private int silenceTells(int minutes) {
        leave(1);
        return minutes;
    }

    private int keptTells(int minutes) {
        leave(2);
        return silenceTells(minutes) + 100;
    }

    private int heldTells(int minutes) {
        leave(3);
        int kept = keptTells(minutes);
        return kept + silenceTells(minutes);
    }

    /** A SHEET: nothing, or a row of a LANE; its cells hold what is cut to the LANE already. */
    private static final class Sheet {
        private static final int NO_LANE = -1;

        private final int[] cells = new int[MOST_CELLS];
        private int lane = NO_LANE;
        private int size;

        boolean hasRow() {
            return lane != NO_LANE;
        }

        void begin(int newLane, int newSize) {
            Arrays.fill(cells, 0);
            lane = newLane;
            size = newSize;
        }

        void drop() {
            lane = NO_LANE;
            size = 0;
        }

        int faultAs(int wanted) {
            if (!hasRow()) {
                return FAULT_NULL;
            }
            return lane == wanted ? 0 : FAULT_CAST;
        }

        boolean hasCell(int i) {
            return i >= 0 && i < size;
        }

        /** Subtracts instead of adding: i + n might wrap. */
        boolean hasCells(int i, int n) {
            return i >= 0 && i <= size && n >= 0 && n <= size - i;
        }

        int cut(int v) {
            switch (lane) {
                case 0: return (byte) v;
                case 1: return (short) v;
                default: return v;
            }
        }
    }

    /** Reads a TEXT; it stops at the FIRST FAULT, so that its place is the fault's. */
    private static final class TextReader {
        private Sheet from;
        private int begin;
        private int length;
        private int at;

        /** Whether n cells of a SHEET, that has them, are a TEXT: then a border is as it tells. */
        boolean readInto(Border border, Sheet sheet, int i, int n) {
            from = sheet;
            begin = i;
            length = n;
            at = 0;
            border.begin();
            if (!takes('u', 'u') || !takes('0', '9')) {
                return false;
            }
            border.freeMinutes = digitBefore(1);
            return readPosts(border) && readSilences(border) && at == length;
        }

        int place() {
            return at;
        }

        private boolean readPosts(Border border) {
            for (int p = 0; p < MOST_POSTS; p++) {
                if (p > 0 && code() != ';') {
                    return true;
                }
                if (!takes(';', ';') || !takes('1', '9') || !takes('0', '9')) {
                    return false;
                }
                border.addPost(digitBefore(2), digitBefore(1));
            }
            return true;
        }

        private boolean readSilences(Border border) {
            for (int k = 0; k < MOST_SILENCES; k++) {
                if (k > 0 && at == length) {
                    return true;
                }
                if (!takes(',', ',')) {
                    return false;
                }
                int kind = kindOf(code());
                if (kind == NONE) {
                    return false;
                }
                at++;
                if (!takes('1', '9') || !takes('1', '9')) {
                    return false;
                }
                border.addSilence(kind, digitBefore(2), digitBefore(1));
            }
            return true;
        }

        private boolean takes(int low, int high) {
            int code = code();
            if (code < low || code > high) {
                return false;
            }
            at++;
            return true;
        }

        /** The code that is next, or one that no TEXT has. */
        private int code() {
            return at < length ? codeAt(at) : NONE;
        }

        private int digitBefore(int back) {
            return codeAt(at - back) - '0';
        }

        private int codeAt(int place) {
            return from != null && from.hasCell(begin + place) ? from.cells[begin + place] : NONE;
        }

        private static int kindOf(int letter) {
            switch (letter) {
                case 's': return PLAIN;
                case 'k': return KEPT;
                case 'h': return HELD;
                default: return NONE;
            }
        }
    }

    /** A FRONTIER and all that is set or read there; without POSTS it is none. */
    private static final class Border {
        private int posts;
        private final int[] rate = new int[MOST_POSTS];
        private final int[] ear = new int[MOST_POSTS];
        private int silences;
        private final int[] kind = new int[MOST_SILENCES];
        private final int[] minutes = new int[MOST_SILENCES];
        private final int[] fineness = new int[MOST_SILENCES];
        private final int[] carrier = new int[MOST_SILENCES];
        private final int[] humming = new int[CARRIERS];
        private int declared;
        private int dutiableKinds;
        private int freeMinutes;
        /** The SILENCE that is taken as not there at all, or NONE. */
        private int leftOut = NONE;
        private int readings;
        private final int[] readPost = new int[MOST_READINGS];
        private final int[] readDuty = new int[MOST_READINGS];

        void begin() {
            posts = 0;
            silences = 0;
            declared = 0;
            dutiableKinds = MOST_LAW;
            freeMinutes = 0;
            readings = 0;
            Arrays.fill(humming, 0);
        }

        void addPost(int itsRate, int itsEar) {
            if (posts < MOST_POSTS) {
                rate[posts] = itsRate;
                ear[posts] = itsEar;
                posts++;
            }
        }

        void addSilence(int itsKind, int itsMinutes, int itsFineness) {
            if (silences < MOST_SILENCES) {
                kind[silences] = itsKind;
                minutes[silences] = itsMinutes;
                fineness[silences] = itsFineness;
                carrier[silences] = 0;
                declared |= 1 << silences;
                silences++;
            }
        }

        boolean isMissing() {
            return posts == 0;
        }

        boolean hasPost(int p) {
            return p >= 0 && p < posts;
        }

        boolean hasSilence(int k) {
            return k >= 0 && k < silences;
        }

        int allSilences() {
            return (1 << silences) - 1;
        }

        boolean isDeclared(int k) {
            return (declared >> k & 1) != 0;
        }

        boolean isDutiable(int k) {
            return (dutiableKinds >> kind[k] & 1) != 0;
        }

        int gradeOf(int k) {
            switch (kind[k]) {
                case HELD: return 2 * (fineness[k] + 1);
                case KEPT: return fineness[k] + 1;
                default: return fineness[k];
            }
        }

        int weightOf(int k) {
            return minutes[k] * gradeOf(k);
        }

        int dutyAt(int p) {
            return dutyByRate(rate[p]);
        }

        int dutyAtAll() {
            int rates = 0;
            for (int p = 0; p < posts; p++) {
                rates += rate[p];
            }
            return dutyByRate(rates);
        }

        private int dutyByRate(int itsRate) {
            int sum = 0;
            for (int who = 0; who < CARRIERS; who++) {
                sum += minutesByGrade(who);
            }
            return sum * itsRate;
        }

        private int minutesByGrade(int who) {
            int together = 0;
            int greatest = 0;
            for (int k = 0; k < silences; k++) {
                if (carrier[k] == who && k != leftOut && isDeclared(k) && isDutiable(k)) {
                    together += minutes[k];
                    greatest = Math.max(greatest, gradeOf(k));
                }
            }
            return Math.max(0, together - freeMinutes) * greatest;
        }

        /** How likely a SILENCE is heard at a POST, in tenths. */
        int tenthsHeard(int k, int p) {
            if (k == leftOut || isDeclared(k) || !isDutiable(k)) {
                return 0;
            }
            return Math.max(0, ear[p] - humming[carrier[k]]);
        }

        boolean readingsAreSo() {
            for (int r = 0; r < readings; r++) {
                if (dutyAt(readPost[r]) != readDuty[r]) {
                    return false;
                }
            }
            return true;
        }

        int carrierRows() {
            int rows = 1;
            for (int k = 0; k < silences; k++) {
                rows *= CARRIERS;
            }
            return rows;
        }

        /** The CARRIERS of all SILENCES as one number, which grows as the row does. */
        int carrierRow() {
            int row = 0;
            for (int k = 0; k < silences; k++) {
                row = row * CARRIERS + carrier[k];
            }
            return row;
        }

        void setCarrierRow(int row) {
            int left = row;
            for (int k = silences - 1; k >= 0; k--) {
                carrier[k] = left % CARRIERS;
                left /= CARRIERS;
            }
        }
    }

    /** A WAY: a row of POSTS of a border. */
    private static final class Way {
        private final int[] stops = new int[MOST_WAY];
        private int length;

        void begin() {
            length = 0;
        }

        void goOn(int p) {
            if (length < MOST_WAY) {
                stops[length] = p;
                length++;
            }
        }

        /** COST, in PARTS. */
        long costIn(Border border) {
            long sum = 0;
            for (int s = 0; s < length; s++) {
                sum += border.dutyAt(stops[s]) * PARTS;
            }
            for (int k = 0; k < border.silences; k++) {
                sum += meanTaken(border, k);
            }
            return sum;
        }

        /**
         * What is paid in the mean for a SILENCE where it is heard first, in PARTS. A tenth is always
         * whole: each of the stops, 8 at most, takes one of the eight zeros of PARTS.
         */
        private long meanTaken(Border border, int k) {
            long unheard = PARTS;
            long sum = 0;
            for (int s = 0; s < length; s++) {
                int p = stops[s];
                long heard = unheard / 10 * border.tenthsHeard(k, p);
                sum += heard * 2 * border.weightOf(k) * border.rate[p];
                unheard -= heard;
            }
            return sum;
        }
    }
}
