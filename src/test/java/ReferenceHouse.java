import java.util.ArrayList;
import java.util.List;
import java.util.function.IntPredicate;
import java.util.function.Predicate;

/**
 * The document once more, in another form: kinds are classes that call the one above them, every
 * question copies the house and tries all answers out, a text is cut into tokens ahead of reading.
 */
public final class ReferenceHouse {
    private static final int BEYOND = 0, FULL = 1, KIND = 2, NONE = 3, STATE = 4, MISSING = 5, SIZE = 6;

    private static class Kind {
        int gladdens(Row r) { return 5; }
        int tires(Row r, int scene) { return 4; }
        int bears(Row r) { return 30; }
        int falls(Row r, boolean fire) { return 4; }
        int rises(Row r) { return 2; }
    }

    private static class Velvet extends Kind {
        @Override int gladdens(Row r) { return 2 * super.gladdens(r); }
        @Override int tires(Row r, int scene) { return super.tires(r, scene) + 2; }
        @Override int bears(Row r) { return super.bears(r) + 10; }
        @Override int falls(Row r, boolean fire) { return super.falls(r, fire) - 2; }
        @Override int rises(Row r) { return super.rises(r) / 2; }
    }

    private static final class Fringe extends Velvet {
        @Override int gladdens(Row r) { return super.gladdens(r) - 2; }
        @Override int tires(Row r, int scene) { return r.high == 0 ? 0 : super.tires(r, scene); }
        @Override int falls(Row r, boolean fire) { return super.falls(r, fire) + (fire ? 6 : 0); }
    }

    private static class Gauze extends Kind {
        @Override int gladdens(Row r) { return super.gladdens(r) - 1; }
        @Override int tires(Row r, int scene) { return super.tires(r, scene) / 2; }
        @Override int bears(Row r) { return super.bears(r) - 10; }
        @Override int falls(Row r, boolean fire) { return super.falls(r, fire) + 2; }
        @Override int rises(Row r) { return super.rises(r) + 1; }
    }

    private static class Drop extends Gauze {
        @Override int tires(Row r, int scene) { return super.tires(r, scene) + scene % 2; }
        @Override int falls(Row r, boolean fire) { return 20; }
        @Override int rises(Row r) { return 2 * super.rises(r); }
    }

    private static final class Cloud extends Drop {
        @Override int gladdens(Row r) { return super.gladdens(r) + Integer.bitCount(r.likes); }
        @Override int tires(Row r, int scene) { return Math.max(0, super.tires(r, scene) - 1); }
        @Override int bears(Row r) { return 2 * super.bears(r); }
        @Override int falls(Row r, boolean fire) { return super.falls(r, fire) - 15; }
    }

    private static final class Iron extends Kind {
        @Override int gladdens(Row r) { return 0; }
        @Override int tires(Row r, int scene) { return 0; }
        @Override int bears(Row r) { return 0; }
        @Override int falls(Row r, boolean fire) { return 1; }
        @Override int rises(Row r) { return 1; }
    }

    private static final Kind[] KINDS = {
        new Kind(), new Velvet(), new Gauze(), new Drop(), new Cloud(), new Iron(), new Fringe()};
    private static final List<String> WORDS =
            List.of("curtain", "velvet", "gauze", "drop", "cloud", "iron", "fringe");

    private static final class Row {
        int kind;
        int mood = 60;
        int likes;
        int high = 20;
        int tied;
        int downs;

        Kind k() {
            return KINDS[kind];
        }

        Row twin() {
            Row r = new Row();
            r.kind = kind;
            r.mood = mood;
            r.likes = likes;
            r.high = high;
            r.tied = tied;
            r.downs = downs;
            return r;
        }
    }

    private static final class State {
        int[] list = {0, 1, 2, 3, 4, 5};
        boolean fire;
        int cut;
        int saved;
        int beat;
        int z = 1;
        List<Row> rows = new ArrayList<>();
        int[] spots = {-1, -1, -1, -1, -1, -1, -1, -1, -1, -1};

        State twin() {
            State s = new State();
            s.list = list.clone();
            s.fire = fire;
            s.cut = cut;
            s.saved = saved;
            s.beat = beat;
            s.z = z;
            for (Row r : rows) {
                s.rows.add(r.twin());
            }
            s.spots = spots.clone();
            return s;
        }

        State behind(int n) {
            State s = twin();
            for (int i = 0; i < n; i++) {
                s.beatGoesBy();
            }
            return s;
        }

        void beatGoesBy() {
            int s = list[beat % 6];
            for (Row r : rows) {
                if ((r.likes & 1 << s) != 0) {
                    r.mood = Math.min(99, r.mood + r.k().gladdens(r));
                } else {
                    r.mood = Math.max(0, r.mood - r.k().tires(r, s));
                }
                int ahead = r.high;
                if (r.tied == 0) {
                    if (fire || r.mood < r.k().bears(r)) {
                        r.high = Math.max(0, r.high - r.k().falls(r, fire));
                    } else {
                        r.high = Math.min(20, r.high + r.k().rises(r));
                    }
                }
                if (r.high == 0 && ahead != 0) {
                    r.downs = Math.min(9999, r.downs + 1);
                    if (fire) {
                        saved = Math.min(900, saved + 100);
                    } else {
                        cut = Math.min(99999, cut + 1);
                        r.mood = Math.min(99, r.mood + 25);
                    }
                }
            }
            beat = Math.min(99999, beat + 1);
        }

        int draw() {
            z = z * 1103515245 + 12345;
            return z >>> 8;
        }

        int setOf(Predicate<Row> p) {
            int set = 0;
            for (int c = 0; c < rows.size(); c++) {
                set |= p.test(rows.get(c)) ? 1 << c : 0;
            }
            return set;
        }
    }

    private State st = new State();
    private State kept;
    private String tape = "";
    private final Object[] sheets = new Object[4];
    private final int[] counts = new int[7];

    private int f(int finding) {
        counts[finding]++;
        return -1000001 - finding;
    }

    private static boolean in(int v, int from, int to) {
        return from <= v && v <= to;
    }

    private boolean c(int curtain) {
        return in(curtain, 0, st.rows.size() - 1);
    }

    public int fire(int v) {
        if (!in(v, 0, 1)) return f(BEYOND);
        int was = st.fire ? 1 : 0;
        st.fire = v == 1;
        return was;
    }

    public int scene(int i, int scene) {
        if (!in(i, 0, 5) || !in(scene, 0, 11)) return f(BEYOND);
        int was = st.list[i];
        st.list[i] = scene;
        return was;
    }

    public int listed(int i) {
        return in(i, 0, 5) ? st.list[i] : f(BEYOND);
    }

    public int curtain(int kind, int likes) {
        if (!in(kind, 0, 6) || !in(likes, 0, 4095)) return f(BEYOND);
        if (st.rows.size() == 8) return f(FULL);
        Row r = new Row();
        r.kind = kind;
        r.likes = likes;
        st.rows.add(r);
        return st.rows.size() - 1;
    }

    private static int part(State s, int curtain, int what) {
        Row r = s.rows.get(curtain);
        int[] parts = {r.kind, r.mood, r.likes, r.high, r.tied, r.downs, r.k().gladdens(r),
            r.k().tires(r, s.list[s.beat % 6]), r.k().bears(r), r.k().falls(r, s.fire), r.k().rises(r)};
        return parts[what];
    }

    public int of(int curtain, int what) {
        return c(curtain) && in(what, 0, 10) ? part(st, curtain, what) : f(BEYOND);
    }

    public int change(int curtain, int what, int v) {
        int[] most = {6, 99, 4095, 20, 1, 9999};
        if (!c(curtain) || !in(what, 0, 5) || !in(v, 0, most[what])) return f(BEYOND);
        int was = part(st, curtain, what);
        Row r = st.rows.get(curtain);
        if (what == 0) r.kind = v;
        if (what == 1) r.mood = v;
        if (what == 2) r.likes = v;
        if (what == 3) r.high = v;
        if (what == 4) r.tied = v;
        if (what == 5) r.downs = v;
        return was;
    }

    private static void pulled(Row r, int hands) {
        r.high = Math.min(20, r.high + hands / 10 + r.k().rises(r));
        r.mood = Math.max(0, r.mood - hands / 5);
    }

    public int pull(int curtain, int hands) {
        if (!c(curtain) || !in(hands, 1, 40)) return f(BEYOND);
        Row r = st.rows.get(curtain);
        if (r.tied == 1) return f(STATE);
        pulled(r, hands);
        return r.high;
    }

    public int go(int n) {
        if (!in(n, 1, 60)) return f(BEYOND);
        if (st.beat + n > 99999) return f(STATE);
        st = st.behind(n);
        return st.cut;
    }

    public int now(int what) {
        if (!in(what, 0, 7)) return f(BEYOND);
        int moods = 0;
        int likes = 0;
        for (Row r : st.rows) {
            moods += r.mood;
            likes |= r.likes;
        }
        int[] all = {st.beat, st.cut, st.saved, st.setOf(r -> r.high == 0),
            st.setOf(r -> r.mood < r.k().bears(r)), moods, likes, st.fire ? 1 : 0};
        return all[what];
    }

    public int ahead(int curtain, int what, int n) {
        if (!c(curtain) || !List.of(1, 3, 5, 8).contains(what) || !in(n, 0, 100)) return f(BEYOND);
        return part(st.behind(n), curtain, what);
    }

    public int cut(int n) {
        return in(n, 0, 100) ? st.behind(n).cut : f(BEYOND);
    }

    private int until(Predicate<State> p) {
        State s = st.twin();
        for (int n = 0; n <= 200; n++) {
            if (p.test(s)) return n;
            s.beatGoesBy();
        }
        return f(NONE);
    }

    public int down(int curtain) {
        return c(curtain) ? until(s -> s.rows.get(curtain).high == 0) : f(BEYOND);
    }

    public int up(int curtain) {
        return c(curtain) ? until(s -> s.rows.get(curtain).high == 20) : f(BEYOND);
    }

    public int weary(int curtain, int v) {
        return c(curtain) && in(v, 0, 99) ? until(s -> s.rows.get(curtain).mood <= v) : f(BEYOND);
    }

    public int saved(int v) {
        return in(v, 0, 900) ? until(s -> s.saved >= v) : f(BEYOND);
    }

    public int sceneFor(int i, int n) {
        if (!in(i, 0, 5) || !in(n, 0, 60)) return f(BEYOND);
        int[] cuts = new int[12];
        int least = Integer.MAX_VALUE;
        for (int scene = 0; scene < 12; scene++) {
            State s = st.twin();
            s.list[i] = scene;
            cuts[scene] = s.behind(n).cut;
            least = Math.min(least, cuts[scene]);
        }
        for (int scene = 0; ; scene++) {
            if (cuts[scene] == least) return scene;
        }
    }

    public int kindFor(int curtain, int n) {
        if (!c(curtain) || !in(n, 0, 60)) return f(BEYOND);
        int[] moods = new int[7];
        int most = -1;
        for (int kind = 0; kind < 7; kind++) {
            State s = st.twin();
            s.rows.get(curtain).kind = kind;
            moods[kind] = s.behind(n).rows.get(curtain).mood;
            most = Math.max(most, moods[kind]);
        }
        for (int kind = 0; ; kind++) {
            if (moods[kind] == most) return kind;
        }
    }

    private int least(int from, int to, IntPredicate p) {
        for (int v = from; v <= to; v++) {
            if (p.test(v)) return v;
        }
        return f(NONE);
    }

    public int moodFor(int curtain, int n) {
        if (!c(curtain) || !in(n, 0, 60)) return f(BEYOND);
        return least(0, 99, mood -> {
            State s = st.twin();
            s.rows.get(curtain).mood = mood;
            return s.behind(n).rows.get(curtain).downs == st.rows.get(curtain).downs;
        });
    }

    public int handsFor(int curtain, int n) {
        if (!c(curtain) || !in(n, 0, 60)) return f(BEYOND);
        if (st.rows.get(curtain).tied == 1) return f(STATE);
        return least(1, 40, hands -> {
            State s = st.twin();
            pulled(s.rows.get(curtain), hands);
            return s.behind(n).rows.get(curtain).high != 0;
        });
    }

    private int fewest(int bits, IntPredicate p) {
        for (int many = 0; many <= bits; many++) {
            for (int set = 0; set < 1 << bits; set++) {
                if (Integer.bitCount(set) == many && p.test(set)) return set;
            }
        }
        return f(NONE);
    }

    public int tie(int n) {
        if (!in(n, 0, 20)) return f(BEYOND);
        return fewest(st.rows.size(), set -> {
            State s = st.twin();
            for (int i = 0; i < s.rows.size(); i++) {
                if ((set & 1 << i) != 0) s.rows.get(i).tied = 1;
            }
            return s.behind(n).cut == st.cut;
        });
    }

    public int please() {
        return fewest(12, set -> st.setOf(r -> r.likes != 0 && (r.likes & set) == 0) == 0);
    }

    private static int length(Object sheet) {
        return java.lang.reflect.Array.getLength(sheet);
    }

    private static int number(Object sheet, int i) {
        return java.lang.reflect.Array.getInt(sheet, i);
    }

    private static boolean isAsTold(Object sheet, State s, int curtain) {
        for (int i = 0; i < length(sheet); i++) {
            int told = number(sheet, i);
            if (told != -1 && told != s.behind(i).rows.get(curtain).high) return false;
        }
        return true;
    }

    private Integer toldFinding(int s, int curtain) {
        if (!in(s, 0, 3)) return f(BEYOND);
        if (sheets[s] == null) return f(MISSING);
        return c(curtain) ? null : Integer.valueOf(f(BEYOND));
    }

    public int fits(int s, int curtain) {
        Integer finding = toldFinding(s, curtain);
        if (finding != null) return finding;
        int set = 0;
        for (int scene = 0; scene < 12; scene++) {
            State t = st.twin();
            t.list[t.beat % 6] = scene;
            set |= isAsTold(sheets[s], t, curtain) ? 1 << scene : 0;
        }
        return set;
    }

    public int kinds(int s, int curtain) {
        Integer finding = toldFinding(s, curtain);
        if (finding != null) return finding;
        int set = 0;
        for (int kind = 0; kind < 7; kind++) {
            State t = st.twin();
            t.rows.get(curtain).kind = kind;
            set |= isAsTold(sheets[s], t, curtain) ? 1 << kind : 0;
        }
        return set;
    }

    public int evening(int n) {
        if (!in(n, 1, 20)) return f(BEYOND);
        if (st.beat + n > 99999) return f(STATE);
        for (int i = 0; i < n; i++) {
            int scene = st.draw() % 12;
            int curtain = st.draw() % 8;
            st.list[st.beat % 6] = scene;
            if (c(curtain)) {
                Row r = st.rows.get(curtain);
                r.likes = (r.likes & 1 << scene) == 0 ? r.likes | 1 << scene : r.likes & ~(1 << scene);
            }
            st.beatGoesBy();
        }
        return st.cut;
    }

    public long odds(int curtain, int n, int what) {
        if (!c(curtain) || !in(n, 0, 17) || !in(what, 0, 1)) return f(BEYOND);
        java.math.BigInteger above = java.math.BigInteger.valueOf(Integer.bitCount(st.rows.get(curtain).likes)).pow(n);
        java.math.BigInteger below = java.math.BigInteger.valueOf(12).pow(n);
        return (what == 0 ? above : below).divide(above.gcd(below)).longValueExact();
    }

    public int seed(int v) {
        int was = st.z;
        st.z = v;
        return was;
    }

    public int feed(int bytes, int n) {
        if (!in(n, 1, 4)) return f(BEYOND);
        if (tape.length() + n > 120) return f(FULL);
        byte[] all = java.nio.ByteBuffer.allocate(4).putInt(bytes).array();
        for (int i = 4 - n; i < 4; i++) {
            tape += (char) (all[i] & 255);
        }
        return tape.length();
    }

    public int wipe() {
        int had = tape.length();
        tape = "";
        return had;
    }

    /** Tokens of a text, with their places; what is none of them is told as "?". */
    private static final class Tokens {
        final List<String> words = new ArrayList<>();
        final List<Integer> places = new ArrayList<>();
        int at;

        Tokens(String text) {
            java.util.regex.Matcher m = java.util.regex.Pattern
                    .compile("[a-z]+|[0-9]+|;|[^ ]", java.util.regex.Pattern.DOTALL).matcher(text);
            while (m.find()) {
                words.add(m.group().matches("[a-z]+|[0-9]+|;") ? m.group() : "?");
                places.add(m.start());
            }
            words.add("");
            places.add(text.length());
        }

        boolean is(String word) {
            if (!words.get(at).equals(word)) return false;
            at++;
            return true;
        }

        Integer number(int most) {
            String w = words.get(at);
            if (!w.matches("[0-9]+")) return null;
            if (new java.math.BigInteger(w).compareTo(java.math.BigInteger.valueOf(most)) > 0) return null;
            at++;
            return new java.math.BigInteger(w).intValueExact();
        }
    }

    private static boolean item(Tokens t, State s) {
        Integer a;
        Integer b;
        int kind = WORDS.indexOf(t.words.get(t.at));
        if (kind >= 0) {
            if (s.rows.size() == 8) return false;
            t.at++;
            Row r = new Row();
            r.kind = kind;
            s.rows.add(r);
            if (t.is("mood")) {
                if ((a = t.number(99)) == null) return false;
                r.mood = a;
            }
            if (t.is("likes")) {
                if ((a = t.number(4095)) == null) return false;
                r.likes = a;
            }
            if (t.is("high")) {
                if ((a = t.number(20)) == null) return false;
                r.high = a;
            }
            r.tied = t.is("tied") ? 1 : 0;
            return true;
        }
        if (t.is("scene")) {
            if ((a = t.number(5)) == null) return false;
            if ((b = t.number(11)) == null) return false;
            s.list[a] = b;
            return true;
        }
        if (t.is("fire")) {
            s.fire = true;
            return true;
        }
        if (t.is("out")) {
            s.fire = false;
            return true;
        }
        return false;
    }

    public int text() {
        Tokens t = new Tokens(tape);
        tape = "";
        State s = st.twin();
        int items = 0;
        do {
            if (!item(t, s)) return -1 - t.places.get(t.at);
            items++;
        } while (t.is(";"));
        if (!t.words.get(t.at).isEmpty()) return -1 - t.places.get(t.at);
        st = s;
        return items;
    }

    public int hold(int spot, int curtain) {
        if (!in(spot, 0, 9) || !in(curtain, -1, st.rows.size() - 1)) return f(BEYOND);
        st.spots[spot] = curtain;
        return 1;
    }

    public int as(int spot, int kind) {
        if (!in(spot, 0, 9) || !in(kind, 0, 6)) return f(BEYOND);
        if (st.spots[spot] < 0) return f(MISSING);
        if (!KINDS[kind].getClass().isInstance(st.rows.get(st.spots[spot]).k())) return f(KIND);
        return st.spots[spot];
    }

    public int sheet(int s, int bits, int n) {
        if (!in(s, 0, 3) || !List.of(0, 8, 16, 32).contains(bits)) return f(BEYOND);
        if (n < 0) return f(SIZE);
        if (n > 40) return f(BEYOND);
        sheets[s] = bits == 0 ? null : bits == 8 ? new byte[n] : bits == 16 ? new short[n] : (Object) new int[n];
        return bits == 0 ? 0 : n;
    }

    public int write(int s, int i, int v) {
        if (!in(s, 0, 3)) return f(BEYOND);
        if (sheets[s] == null) return f(MISSING);
        if (!in(i, 0, length(sheets[s]) - 1)) return f(BEYOND);
        if (sheets[s] instanceof byte[] b) b[i] = (byte) v;
        if (sheets[s] instanceof short[] h) h[i] = (short) v;
        if (sheets[s] instanceof int[] w) w[i] = v;
        return 1;
    }

    public int copy(int s, int from, int t, int to, int n) {
        if (!in(s, 0, 3) || !in(t, 0, 3)) return f(BEYOND);
        if (sheets[s] == null || sheets[t] == null) return f(MISSING);
        try {
            System.arraycopy(sheets[s], from, sheets[t], to, n);
        } catch (ArrayStoreException e) {
            return f(KIND);
        } catch (IndexOutOfBoundsException e) {
            return f(BEYOND);
        }
        return n;
    }

    public int load(int s) {
        if (!in(s, 0, 3)) return f(BEYOND);
        if (sheets[s] == null) return f(MISSING);
        int came = 0;
        while (came < length(sheets[s]) && c(came) && in(number(sheets[s], came), 0, 4095)) {
            st.rows.get(came).likes = number(sheets[s], came);
            came++;
        }
        return came;
    }

    public int judge(int s) {
        if (!in(s, 0, 3)) return f(BEYOND);
        if (sheets[s] == null) return f(MISSING);
        for (int i = 0; i < length(sheets[s]); i++) {
            if (!c(i) || st.rows.get(i).high != number(sheets[s], i)) return 1 + i;
        }
        return 0;
    }

    public int image() {
        kept = st.twin();
        return 1;
    }

    public int undo() {
        if (kept == null) return f(NONE);
        st = kept.twin();
        return st.beat;
    }

    public int tear() {
        int was = kept == null ? 0 : 1;
        kept = null;
        return was;
    }

    public int count(int what) {
        if (!in(what, 0, 7)) return f(BEYOND);
        int held = 0;
        for (int spot : st.spots) {
            held += spot >= 0 ? 1 : 0;
        }
        int[] all = {st.beat, st.rows.size(), st.cut, st.saved,
            Integer.bitCount(st.setOf(r -> r.high == 0)), tape.length(), st.z, held};
        return all[what];
    }

    public int status(int which) {
        if (!in(which, -1, 6)) return f(BEYOND);
        if (which >= 0) return counts[which];
        int sum = 0;
        for (int n : counts) {
            sum += n;
        }
        return sum;
    }
}
