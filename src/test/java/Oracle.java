import java.math.BigInteger;
import java.util.ArrayList;
import java.util.List;
import java.util.function.BooleanSupplier;
import java.util.regex.Matcher;
import java.util.regex.Pattern;

/**
 * The document told a second time, in another way than QuietDuty tells it: real rows and casts whose
 * faults the machine throws, kinds as classes, a regular expression for the text, means by all
 * outcomes. It is slow and makes many objects; it serves to compare answers with.
 */
public final class Oracle {
    private static final int UNKNOWN = -1, OUTSIDE = -2, STATE = -3, FULL = -4, NONE = -9;
    private static final long LOST = Long.MIN_VALUE;
    private static final Pattern TEXT = Pattern.compile("u[0-9](;[1-9][0-9]){1,4}(,[skh][1-9][1-9]){1,4}");
    private static final Class<?>[] LANES = {byte[].class, short[].class, int[].class};
    private static final Class<?>[] KINDS = {Silence.class, Kept.class, Held.class};

    private interface Lent {
        int number();
        void leave(int number);
        default int broken() {
            leave(4);
            return number();
        }
    }

    private static class Silence implements Lent {
        final Oracle of;
        final int minutes, fine, number;
        int carrier = 0;
        boolean declared = true;
        Silence(Oracle of, int minutes, int fine, int number) {
            this.of = of;
            this.minutes = minutes;
            this.fine = fine;
            this.number = number;
        }
        @Override public int number() { return number; }
        @Override public void leave(int n) { of.trace = of.trace * 31 + n; }
        int kind() { return 0; }
        int grade() { return fine; }
        int telling() { return plainTelling(); }
        final int plainTelling() { leave(1); return minutes; }
    }

    private static class Kept extends Silence {
        Kept(Oracle of, int minutes, int fine, int number) { super(of, minutes, fine, number); }
        @Override int kind() { return 1; }
        @Override int grade() { return super.grade() + 1; }
        @Override int telling() { leave(2); return super.telling() + 100; }
    }

    private static class Held extends Kept {
        Held(Oracle of, int minutes, int fine, int number) { super(of, minutes, fine, number); }
        @Override int kind() { return 2; }
        @Override int grade() { return 2 * super.grade(); }
        @Override int telling() { leave(3); int kept = super.telling(); return kept + plainTelling(); }
        @Override public int broken() { leave(5); return 80; }
    }

    private record Fraction(BigInteger upper, BigInteger lower) implements Comparable<Fraction> {
        static Fraction of(long upper, long lower) {
            return new Fraction(BigInteger.valueOf(upper), BigInteger.valueOf(lower)).least();
        }
        Fraction least() {
            BigInteger g = upper.gcd(lower);
            return new Fraction(upper.divide(g), lower.divide(g));
        }
        Fraction plus(Fraction o) {
            return new Fraction(upper.multiply(o.lower).add(o.upper.multiply(lower)), lower.multiply(o.lower)).least();
        }
        Fraction minus(Fraction o) { return plus(new Fraction(o.upper.negate(), o.lower)); }
        Fraction times(Fraction o) {
            return new Fraction(upper.multiply(o.upper), lower.multiply(o.lower)).least();
        }
        @Override public int compareTo(Fraction o) {
            return upper.multiply(o.lower).compareTo(o.upper.multiply(lower));
        }
        long number(int which) { return (which == 0 ? upper : lower).longValueExact(); }
    }

    private record Post(int rate, int ear) { }

    private record Reading(int post, int duty) { }

    private interface Taking {
        long take();
    }

    private final Object[] sheets = new Object[4];
    private List<Post> posts = new ArrayList<>();
    private List<Silence> silences = new ArrayList<>();
    private List<Reading> readings = new ArrayList<>();
    private int[] hums = new int[3];
    private int free, law, trace, fault;

    // ---- 1

    public int frontier(int sheet, int lane, int i, int n) {
        fault = 0;
        if (sheet < 0 || sheet > 3) return UNKNOWN;
        if (lane < 0 || lane > 2) return OUTSIDE;
        int[] codes = new int[Math.max(0, Math.min(n, 100))];
        int f = faultOf(() -> {
            Object row = LANES[lane].cast(sheets[sheet]);
            row.getClass();
            new TakenSize(n).row();
            takeCells(row, i, n, codes);
            return 0;
        });
        if (f != 0) return -10 - f;
        StringBuilder text = new StringBuilder();
        for (int code : codes) text.append(code < 0 || code > 127 ? '?' : (char) code);
        if (!TEXT.matcher(text).matches()) return -100 - firstFault(text.toString());
        takeText(text.toString());
        return silences.size();
    }

    private static int firstFault(String text) {
        for (int end = 1; end <= text.length(); end++) {
            Matcher m = TEXT.matcher(text.substring(0, end));
            if (!m.matches() && !m.hitEnd()) return end - 1;
        }
        return text.length();
    }

    private void takeText(String text) {
        posts = new ArrayList<>();
        silences = new ArrayList<>();
        readings = new ArrayList<>();
        hums = new int[3];
        law = 7;
        free = text.charAt(1) - '0';
        for (String part : text.split("(?=[;,])")) {
            if (part.charAt(0) == ';') posts.add(new Post(part.charAt(1) - '0', part.charAt(2) - '0'));
            if (part.charAt(0) == ',') {
                silences.add(silence("skh".indexOf(part.charAt(1)), part.charAt(2) - '0', part.charAt(3) - '0',
                    silences.size()));
            }
        }
    }

    private Silence silence(int kind, int minutes, int fine, int number) {
        if (kind == 2) return new Held(this, minutes, fine, number);
        return kind == 1 ? new Kept(this, minutes, fine, number) : new Silence(this, minutes, fine, number);
    }

    public int ofPost(int p, int what) {
        if (!isPost(p)) return UNKNOWN;
        if (what < 0 || what > 1) return OUTSIDE;
        return what == 0 ? posts.get(p).rate : posts.get(p).ear;
    }

    public int ofSilence(int k, int what) {
        if (!isSilence(k)) return UNKNOWN;
        Silence s = silences.get(k);
        int[] all = {s.kind(), s.minutes, s.fine, s.grade(), s.minutes * s.grade(), s.carrier, s.declared ? 1 : 0,
            dutiable(s) ? 1 : 0};
        return what < 0 || what >= all.length ? OUTSIDE : all[what];
    }

    public int free(int v) {
        if (v < 0 || v > 9) return OUTSIDE;
        if (posts.isEmpty()) return STATE;
        int was = free;
        free = v;
        return was;
    }

    public int law(int v) {
        if (v < 0 || v > 7) return OUTSIDE;
        if (posts.isEmpty()) return STATE;
        int was = law;
        law = v;
        return was;
    }

    public int carry(int k, int who) {
        if (!isSilence(k) || who < 0 || who > 2) return UNKNOWN;
        int was = silences.get(k).carrier;
        silences.get(k).carrier = who;
        return was;
    }

    public int declare(int k, boolean is) {
        if (!isSilence(k)) return UNKNOWN;
        boolean was = silences.get(k).declared;
        silences.get(k).declared = is;
        return was == is ? 0 : 1;
    }

    public int hum(int who, int v) {
        if (who < 0 || who > 2) return UNKNOWN;
        if (v < 0 || v > 9) return OUTSIDE;
        if (posts.isEmpty()) return STATE;
        int was = hums[who];
        hums[who] = v;
        return was;
    }

    // ---- 2

    public int duty(int p) {
        return isPost(p) ? dutyOf(p) : UNKNOWN;
    }

    private int dutyOf(int p) {
        int duty = 0;
        for (int who = 0; who < 3; who++) {
            int carrier = who;
            List<Silence> has = silences.stream()
                .filter(s -> s.carrier == carrier && s.declared && dutiable(s)).toList();
            int minutes = has.stream().mapToInt(s -> s.minutes).sum();
            int grade = has.stream().mapToInt(Silence::grade).max().orElse(0);
            if (minutes > free) duty += (minutes - free) * grade * posts.get(p).rate;
        }
        return duty;
    }

    private boolean dutiable(Silence s) {
        return (law & 1 << s.kind()) != 0;
    }

    private Fraction heard(Silence s, int p) {
        boolean hidden = dutiable(s) && !s.declared;
        return Fraction.of(hidden ? Math.max(0, posts.get(p).ear - hums[s.carrier]) : 0, 10);
    }

    public long clear(int p, int which) {
        if (!isPost(p) || which < 0 || which > 1) return LOST;
        Fraction clear = Fraction.of(1, 1);
        for (Silence s : silences) clear = clear.times(Fraction.of(1, 1).minus(heard(s, p)));
        return clear.number(which);
    }

    public long cost(int sheet, int lane, int i, int n, int which) {
        fault = 0;
        int[] way = new int[8];
        if (sheet < 0 || sheet > 3) return LOST;
        if (which < 0 || which > 1) return LOST;
        if (takeWay(sheet, lane, i, n, way) != 0) return LOST;
        return costOf(way, n).number(which);
    }

    /** By every outcome of who is heard where, post by post, for as many as are still unheard. */
    private Fraction costOf(int[] way, int n) {
        List<Silence> hidden = new ArrayList<>();
        for (Silence s : silences) if (dutiable(s) && !s.declared) hidden.add(s);
        return costFrom(way, n, 0, hidden);
    }

    private Fraction costFrom(int[] way, int n, int stop, List<Silence> hidden) {
        if (stop == n) return Fraction.of(0, 1);
        Fraction sum = Fraction.of(dutyOf(way[stop]), 1);
        if (hidden.isEmpty()) return sum.plus(costFrom(way, n, stop + 1, hidden));
        for (int set = 0; set < 1 << hidden.size(); set++) {
            Fraction likely = Fraction.of(1, 1);
            List<Silence> left = new ArrayList<>();
            long paid = 0;
            for (int b = 0; b < hidden.size(); b++) {
                Silence s = hidden.get(b);
                Fraction h = heard(s, way[stop]);
                if ((set >> b & 1) != 0) {
                    likely = likely.times(h);
                    paid += 2L * s.minutes * s.grade() * posts.get(way[stop]).rate;
                } else {
                    likely = likely.times(Fraction.of(1, 1).minus(h));
                    left.add(s);
                }
            }
            if (likely.upper.signum() != 0) {
                sum = sum.plus(likely.times(Fraction.of(paid, 1).plus(costFrom(way, n, stop + 1, left))));
            }
        }
        return sum;
    }

    // ---- 3

    public int say(int sheet, int lane, int i, int n) {
        fault = 0;
        int[] way = new int[8];
        int no = takeWay(sheet, lane, i, n, way);
        if (no != 0) return no;
        int was = declaredSet();
        int best = -1;
        Fraction least = null;
        for (int set = 0; set < 1 << silences.size(); set++) {
            setDeclared(set);
            Fraction cost = Fraction.of(0, 1);
            // Costs of silences by themselves add up; costOf itself is too slow for all sets.
            for (int s = 0; s < n; s++) cost = cost.plus(Fraction.of(dutyOf(way[s]), 1));
            for (Silence s : silences) if (!s.declared && dutiable(s)) cost = cost.plus(aloneCost(s, way, n));
            if (least == null || cost.compareTo(least) < 0) {
                least = cost;
                best = set;
            }
        }
        setDeclared(was);
        return best;
    }

    private Fraction aloneCost(Silence s, int[] way, int n) {
        Fraction sum = Fraction.of(0, 1);
        for (int stop = n - 1; stop >= 0; stop--) {
            Fraction h = heard(s, way[stop]);
            Fraction paid = Fraction.of(2L * s.minutes * s.grade() * posts.get(way[stop]).rate, 1);
            sum = h.times(paid).plus(Fraction.of(1, 1).minus(h).times(sum));
        }
        return sum;
    }

    public int pack(int k) {
        if (k < -1) return UNKNOWN;
        if (posts.isEmpty()) return STATE;
        if (k >= silences.size()) return NONE;
        int[] was = silences.stream().mapToInt(s -> s.carrier).toArray();
        int[] best = new int[silences.size() + 1];
        best[silences.size()] = Integer.MAX_VALUE;
        tryCarriers(0, best);
        for (int s = 0; s < was.length; s++) silences.get(s).carrier = was[s];
        return k == -1 ? best[silences.size()] : best[k];
    }

    private void tryCarriers(int k, int[] best) {
        if (k == silences.size()) {
            int duty = 0;
            for (int p = 0; p < posts.size(); p++) duty += dutyOf(p);
            if (duty < best[k]) {
                best[k] = duty;
                for (int s = 0; s < k; s++) best[s] = silences.get(s).carrier;
            }
            return;
        }
        for (int who = 0; who < 3; who++) {
            silences.get(k).carrier = who;
            tryCarriers(k + 1, best);
        }
    }

    public int road() {
        if (posts.isEmpty()) return STATE;
        int best = 0;
        for (int p = 1; p < posts.size(); p++) {
            if (costOf(new int[] {p}, 1).compareTo(costOf(new int[] {best}, 1)) < 0) best = p;
        }
        return best;
    }

    public long worth(int k, int sheet, int lane, int i, int n) {
        fault = 0;
        if (!isSilence(k)) return LOST;
        int[] way = new int[8];
        if (takeWay(sheet, lane, i, n, way) != 0) return LOST;
        Fraction with = costOf(way, n);
        Silence gone = silences.remove(k);
        Fraction without = costOf(way, n);
        silences.add(k, gone);
        Fraction parts = with.minus(without).times(Fraction.of(100000000L, 1));
        if (!parts.lower.equals(BigInteger.ONE)) throw new IllegalStateException("no whole parts");
        return parts.number(0);
    }

    // ---- 4

    public int reading(int p, int v) {
        if (!isPost(p)) return UNKNOWN;
        if (v < 0 || v > 99999) return OUTSIDE;
        if (readings.size() == 8) return FULL;
        readings.add(new Reading(p, v));
        return readings.size() - 1;
    }

    public int back(int k) {
        if (k < 0 || k > readings.size()) return OUTSIDE;
        readings = new ArrayList<>(readings.subList(0, readings.size() - k));
        return readings.size();
    }

    private boolean so() {
        return readings.stream().allMatch(r -> dutyOf(r.post) == r.duty);
    }

    public int said(int what) {
        if (what < 0 || what > 1) return OUTSIDE;
        if (posts.isEmpty()) return STATE;
        int was = declaredSet();
        List<Integer> sets = new ArrayList<>();
        for (int set = 0; set < 1 << silences.size(); set++) {
            setDeclared(set);
            if (so()) sets.add(set);
        }
        setDeclared(was);
        return what == 0 ? sets.size() : sets.isEmpty() ? NONE : sets.get(0);
    }

    public int frees() {
        if (posts.isEmpty()) return STATE;
        int was = free;
        int set = 0;
        for (free = 0; free <= 9; free++) if (so()) set += 1 << free;
        free = was;
        return set;
    }

    public int laws() {
        if (posts.isEmpty()) return STATE;
        int was = law;
        int set = 0;
        for (law = 0; law <= 7; law++) if (so()) set += 1 << law;
        law = was;
        return set;
    }

    public int kinds(int k) {
        if (!isSilence(k)) return UNKNOWN;
        Silence was = silences.get(k);
        int set = 0;
        for (int kind = 0; kind <= 2; kind++) {
            Silence other = silence(kind, was.minutes, was.fine, k);
            other.carrier = was.carrier;
            other.declared = was.declared;
            silences.set(k, other);
            if (so()) set += 1 << kind;
        }
        silences.set(k, was);
        return set;
    }

    public long odds(int p, int v, int which) {
        if (!isPost(p) || v < 0 || v > 99999 || which < 0 || which > 1) return LOST;
        int was = declaredSet();
        Fraction odds = Fraction.of(0, 1);
        for (int set = 0; set < 1 << silences.size(); set++) {
            setDeclared(set);
            if (dutyOf(p) >= v) odds = odds.plus(Fraction.of(1, 1 << silences.size()));
        }
        setDeclared(was);
        return odds.number(which);
    }

    // ---- 5

    public int sheet(int k, int lane, int n) {
        fault = 0;
        if (k < 0 || k > 3) return UNKNOWN;
        if (lane < 0 || lane > 2 || n > 60) return OUTSIDE;
        int f = faultOf(() -> {
            sheets[k] = lane == 0 ? new byte[n] : lane == 1 ? new short[n] : new int[n];
            return 0;
        });
        return f != 0 ? -10 - f : 1;
    }

    public int lose(int k) {
        if (k < 0 || k > 3) return UNKNOWN;
        boolean had = sheets[k] != null;
        sheets[k] = null;
        return had ? 1 : 0;
    }

    public int put(int k, int i, int v) {
        fault = 0;
        if (k < 0 || k > 3) return UNKNOWN;
        int f = faultOf(() -> {
            if (sheets[k] instanceof byte[] b) b[i] = (byte) v;
            else if (sheets[k] instanceof short[] s) s[i] = (short) v;
            else ((int[]) sheets[k])[i] = v;
            return 0;
        });
        return f != 0 ? -10 - f : 1;
    }

    public long cell(int k, int i, int lane) {
        fault = 0;
        if (k < 0 || k > 3 || lane < 0 || lane > 2) return LOST;
        long[] found = {0};
        int f = faultOf(() -> {
            found[0] = java.lang.reflect.Array.getLong(LANES[lane].cast(sheets[k]), i);
            return 0;
        });
        return f != 0 ? LOST : found[0];
    }

    public int copy(int k, int i, int other, int j, int n) {
        fault = 0;
        if (k < 0 || k > 3 || other < 0 || other > 3) return UNKNOWN;
        int f = faultOf(() -> {
            System.arraycopy(sheets[k], i, sheets[other], j, n);
            return 0;
        });
        return f != 0 ? -10 - f : n;
    }

    public int tell(int k) {
        return isSilence(k) ? silences.get(k).telling() : UNKNOWN;
    }

    public int hush(int k) {
        return isSilence(k) ? silences.get(k).broken() : UNKNOWN;
    }

    public int as(int k, int kind) {
        fault = 0;
        if (!isSilence(k)) return UNKNOWN;
        if (kind < 0 || kind > 2) return OUTSIDE;
        int f = faultOf(() -> {
            KINDS[kind].cast(silences.get(k));
            return 0;
        });
        return f != 0 ? -10 - f : 1;
    }

    public int trace() {
        return trace;
    }

    public int fault() {
        return fault;
    }

    public int many(int what) {
        int[] all = {silences.size(), posts.size(), free, law, readings.size()};
        return what < 0 || what >= all.length ? OUTSIDE : all[what];
    }

    // ---- shared

    private boolean isPost(int p) {
        return p >= 0 && p < posts.size();
    }

    private boolean isSilence(int k) {
        return k >= 0 && k < silences.size();
    }

    private int declaredSet() {
        int set = 0;
        for (Silence s : silences) if (s.declared) set += 1 << s.number;
        return set;
    }

    private void setDeclared(int set) {
        for (Silence s : silences) s.declared = (set & 1 << s.number) != 0;
    }

    private record TakenSize(int n) {
        boolean[] row() { return new boolean[Math.min(n, 1)]; }
    }

    private static void takeCells(Object row, int i, int n, int[] to) {
        int size = java.lang.reflect.Array.getLength(row);
        java.util.Objects.checkFromIndexSize(i, n, size);
        for (int c = 0; c < n; c++) to[c] = java.lang.reflect.Array.getInt(row, i + c);
    }

    private int takeWay(int sheet, int lane, int i, int n, int[] way) {
        if (sheet < 0 || sheet > 3) return UNKNOWN;
        if (lane < 0 || lane > 2 || n < 0 || n > 8) return OUTSIDE;
        if (posts.isEmpty()) return STATE;
        int f = faultOf(() -> {
            Object row = LANES[lane].cast(sheets[sheet]);
            takeCells(row, i, n, way);
            return 0;
        });
        if (f != 0) return -10 - f;
        BooleanSupplier known = () -> java.util.Arrays.stream(way, 0, n).allMatch(this::isPost);
        return known.getAsBoolean() ? 0 : UNKNOWN;
    }

    private int faultOf(Taking taking) {
        try {
            taking.take();
            fault = 0;
        } catch (NullPointerException e) {
            fault = 1;
        } catch (ClassCastException | ArrayStoreException e) {
            fault = 2;
        } catch (IndexOutOfBoundsException e) {
            fault = 3;
        } catch (NegativeArraySizeException e) {
            fault = 4;
        }
        return fault;
    }
}
