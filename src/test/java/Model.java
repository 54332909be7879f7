import java.util.ArrayDeque;
import java.util.ArrayList;
import java.util.Deque;
import java.util.HashMap;
import java.util.List;
import java.util.Map;
import java.math.BigInteger;

/**
 * The document told a second time, as naively as can be and in another way than the class: people
 * and sayings are objects, a foretelling is a deep copy, sheets are real arrays on which the
 * machine itself finds what is wrong, a canal is read by a machine of states. Only for tests.
 */
final class Model {
    static final int BAD = -1, NOT = -2, FULL = -3, NONE = -4, NULL = -11, CAST = -12, INDEX = -13, SIZE = -14;

    static class Plain {
        final int weight;
        Plain(int weight) { this.weight = weight; }
        int kind() { return 0; }
        int by(int juice, boolean alone, int minute) { return weight; }
    }
    static class Loud extends Plain {
        Loud(int w) { super(w); }
        @Override int kind() { return 1; }
        @Override int by(int juice, boolean alone, int minute) { return super.by(juice, alone, minute) + juice / 4; }
    }
    static class Dull extends Plain {
        Dull(int w) { super(w); }
        @Override int kind() { return 2; }
        @Override int by(int juice, boolean alone, int minute) { return juice < 6 ? 0 : super.by(juice, alone, minute); }
    }
    static class Stubborn extends Loud {
        Stubborn(int w) { super(w); }
        @Override int kind() { return 3; }
        @Override int by(int juice, boolean alone, int minute) { return super.by(juice, alone, minute) * (alone ? 2 : 1); }
    }
    static class Child extends Dull {
        Child(int w) { super(w); }
        @Override int kind() { return 4; }
        @Override int by(int juice, boolean alone, int minute) { return super.by(juice, alone, minute) + (minute % 2 == 0 ? 3 : 0); }
    }

    static Plain make(int kind, int weight) {
        return switch (kind) {
            case 0 -> new Plain(weight);
            case 1 -> new Loud(weight);
            case 2 -> new Dull(weight);
            case 3 -> new Stubborn(weight);
            default -> new Child(weight);
        };
    }

    static final class Saying {
        int juice;
        boolean[] isFor = new boolean[6];
        Saying(int juice, int set) {
            this.juice = juice;
            for (int p = 0; p < 6; p++) isFor[p] = (set & (1 << p)) != 0;
        }
        int set() {
            int s = 0;
            for (int p = 0; p < 6; p++) if (isFor[p]) s += 1 << p;
            return s;
        }
        Saying twin() { return new Saying(juice, set()); }
    }

    static final class World {
        List<Integer> ice = new ArrayList<>();
        List<Plain> people = new ArrayList<>();
        List<Saying> sayings = new ArrayList<>();
        int boat, minute, frost = 1;
        long draw = 1;
        Deque<World> past = new ArrayDeque<>();

        World twin() {
            World w = new World();
            w.ice.addAll(ice);
            w.people.addAll(people);
            for (Saying s : sayings) w.sayings.add(s.twin());
            w.boat = boat; w.minute = minute; w.frost = frost; w.draw = draw;
            for (World p : past) w.past.addLast(p);
            return w;
        }
        World pastless() {
            World w = twin();
            w.past.clear();
            return w;
        }
        void remember() {
            past.addLast(pastless());
            if (past.size() > 8) past.removeFirst();
        }
        boolean through() { return boat == ice.size(); }
        int ahead() { return through() ? 0 : ice.get(boat); }
        int side(Saying s, boolean pro, boolean[] aboard) {
            int many = 0, sum = 0;
            for (int p = 0; p < people.size(); p++) if (aboard[p] && s.isFor[p] == pro) many++;
            for (int p = 0; p < people.size(); p++)
                if (aboard[p] && s.isFor[p] == pro) sum += people.get(p).by(s.juice, many == 1, minute);
            return sum;
        }
        int rocked(Saying s, boolean[] aboard) {
            return s.juice == 0 ? 0 : Math.min(2 * side(s, true, aboard), 2 * side(s, false, aboard));
        }
        int rocked(Saying s) { return rocked(s, all(63)); }
        int nextOne() {
            int top = sayings.stream().mapToInt(this::rocked).max().orElse(-1);
            for (int s = 0; s < sayings.size(); s++) if (rocked(sayings.get(s)) == top) return s;
            return NONE;
        }
        void minute(int said) {
            int by = said < 0 ? 0 : rocked(sayings.get(said));
            if (!through()) {
                ice.set(boat, Math.max(0, ice.get(boat) - by));
                if (ice.get(boat) == 0) boat++;
                else ice.set(boat, Math.min(60, ice.get(boat) + frost));
            }
            for (int s = 0; s < sayings.size(); s++) {
                Saying x = sayings.get(s);
                if (s == said) x.juice = Math.max(0, x.juice - 2);
                else if (x.juice > 0) x.juice = Math.min(20, x.juice + 1);
            }
            minute++;
        }
        String key() {
            StringBuilder b = new StringBuilder();
            b.append(boat).append('/').append(ahead()).append('/').append(minute & 1);
            for (Saying s : sayings) b.append('/').append(s.juice);
            return b.toString();
        }
    }

    static boolean[] all(int set) {
        boolean[] b = new boolean[6];
        for (int p = 0; p < 6; p++) b[p] = (set >> p & 1) == 1;
        return b;
    }

    World w = new World();
    World kept = null;
    StringBuilder tape = new StringBuilder();
    Object[] sheets = new Object[4];

    int cell(int ice) {
        if (ice < 0 || ice > 60) return BAD;
        if (w.ice.size() == 12) return FULL;
        w.ice.add(ice);
        w.past.clear();
        return w.ice.size() - 1;
    }
    int person(int kind, int weight) {
        if (kind < 0 || kind > 4 || weight < 1 || weight > 9) return BAD;
        if (w.people.size() == 6) return FULL;
        w.people.add(make(kind, weight));
        w.past.clear();
        return w.people.size() - 1;
    }
    int saying(int juice, int fors) {
        if (juice < 0 || juice > 20 || fors < 0 || fors >= Math.pow(2, w.people.size())) return BAD;
        if (w.sayings.size() == 5) return FULL;
        w.sayings.add(new Saying(juice, fors));
        w.past.clear();
        return w.sayings.size() - 1;
    }
    private boolean noCell(int c) { return c < 0 || c >= w.ice.size(); }
    private boolean nobody(int p) { return p < 0 || p >= w.people.size(); }
    private boolean noSaying(long s) { return s < 0 || s >= w.sayings.size(); }
    private static boolean noBit(int what) { return what != 0 && what != 1; }

    int ice(int c) { return noCell(c) ? BAD : w.ice.get(c); }
    int of(int p, int what) {
        if (nobody(p) || what < 0 || what > 2) return BAD;
        if (what == 0) return w.people.get(p).kind();
        if (what == 1) return w.people.get(p).weight;
        int set = 0;
        for (int s = 0; s < w.sayings.size(); s++) if (w.sayings.get(s).isFor[p]) set += 1 << s;
        return set;
    }
    int at(int s, int what) {
        if (noSaying(s) || what < 0 || what > 3) return BAD;
        Saying x = w.sayings.get(s);
        return what == 0 ? x.juice : what == 1 ? x.set() : w.side(x, what == 2, all(63));
    }
    int rocks(int p, int s) {
        if (nobody(p) || noSaying(s)) return BAD;
        Saying x = w.sayings.get(s);
        boolean alone = true;
        for (int q = 0; q < w.people.size(); q++) if (q != p && x.isFor[q] == x.isFor[p]) alone = false;
        return w.people.get(p).by(x.juice, alone, w.minute);
    }
    int frost(int v) {
        if (v < 0 || v > 9) return BAD;
        int was = w.frost;
        w.frost = v;
        return was;
    }
    int type(int letter) {
        if (letter < 32 || letter > 126) return BAD;
        if (tape.length() == 110) return FULL;
        return tape.append((char) letter).length();
    }
    int canal() {
        String text = tape.toString();
        tape.setLength(0);
        Text t = new Text();
        for (int place = 0; place < text.length(); place++) {
            int fault = t.step(text.charAt(place), place);
            if (fault >= 0) return -20 - fault;
        }
        int fault = t.end(text.length());
        if (fault >= 0) return -20 - fault;
        t.made.frost = w.frost;
        t.made.draw = w.draw;
        w = t.made;
        return w.ice.size();
    }

    /** Reads letter by letter; a number is looked at as soon as what is behind it is known. */
    static final class Text {
        World made = new World();
        // what may come: 0 ice's digit, 1 in/behind ice, 2 kind, 3 weight, 4 behind a person,
        // 5 juice's digit, 6 in/behind juice, 7 first FOR, 8 behind a FOR
        int state = 0;
        String digits = "";
        boolean ended = false;
        int first = 0, kind = 0, last = -1;

        int step(char c, int place) {
            if (c == ' ') { ended = true; return flush(); }
            boolean digit = c >= '0' && c <= '9';
            if ((state == 1 || state == 6) && !digits.isEmpty()) {
                if (digit && !ended && digits.length() < 2) { digits += c; return -1; }
                int fault = flush();
                if (fault >= 0) return fault;
            }
            switch (state) {
                case 0: case 5:
                    if (!digit) return place;
                    digits = "" + c; first = place; ended = false; state++;
                    return -1;
                case 1:
                    if (c == '.' && made.ice.size() < 12) { state = 0; return -1; }
                    if (c == ';') { state = 2; return -1; }
                    return place;
                case 2:
                    kind = List.of('p', 'l', 'd', 's', 'c').indexOf(c);
                    state = 3;
                    return kind < 0 ? place : -1;
                case 3:
                    if (c < '1' || c > '9') return place;
                    made.people.add(make(kind, c - '0'));
                    state = 4;
                    return -1;
                case 4:
                    if (c == ',' && made.people.size() < 6) { state = 2; return -1; }
                    if (c == ';') { state = 5; return -1; }
                    return place;
                case 6:
                    if (c == ':') { state = 7; last = -1; return -1; }
                    if (c == ',' && made.sayings.size() < 5) { state = 5; return -1; }
                    return place;
                default:
                    if (digit) {
                        int p = c - '0';
                        if (p <= last || p >= made.people.size()) return place;
                        made.sayings.get(made.sayings.size() - 1).isFor[p] = true;
                        last = p; state = 8;
                        return -1;
                    }
                    if (state == 8 && c == ',' && made.sayings.size() < 5) { state = 5; return -1; }
                    return place;
            }
        }
        int flush() {
            if (digits.isEmpty()) return -1;
            int v = Integer.parseInt(digits);
            digits = "";
            if (v > (state == 1 ? 60 : 20)) return first;
            if (state == 1) made.ice.add(v); else made.sayings.add(new Saying(v, 0));
            return -1;
        }
        int end(int length) {
            int fault = flush();
            if (fault >= 0) return fault;
            return state == 4 || state == 6 || state == 8 ? -1 : length;
        }
    }

    int count(int what) {
        return switch (what) {
            case 0 -> w.ice.size();
            case 1 -> w.people.size();
            case 2 -> w.sayings.size();
            case 3 -> w.boat;
            case 4 -> w.minute;
            case 5 -> w.frost;
            case 6 -> w.ice.subList(w.boat, w.ice.size()).stream().mapToInt(x -> x).sum();
            case 7 -> w.sayings.stream().mapToInt(s -> s.juice).sum();
            case 8 -> w.past.size();
            default -> BAD;
        };
    }
    int say(int s) {
        if (s != NONE && noSaying(s)) return BAD;
        if (w.minute + 1 > 9999) return FULL;
        w.remember();
        w.minute(s);
        return w.boat;
    }
    int thaw(int c, int n) {
        if (noCell(c) || n < 1 || n > 60) return BAD;
        if (w.ice.get(c) == 0) return NOT;
        w.remember();
        w.ice.set(c, Math.max(0, w.ice.get(c) - n));
        return w.ice.get(c);
    }
    int mind(int p, int s) {
        if (nobody(p) || noSaying(s)) return BAD;
        w.remember();
        w.sayings.get(s).isFor[p] = !w.sayings.get(s).isFor[p];
        return w.sayings.get(s).set();
    }
    int drift(int n) {
        if (n < 1 || n > 40) return BAD;
        if (w.minute + n > 9999) return FULL;
        for (int k = 0; k < n; k++) {
            w.remember();
            BigInteger d = BigInteger.valueOf(w.draw).multiply(BigInteger.valueOf(1103515245)).add(BigInteger.valueOf(12345));
            w.draw = d.mod(BigInteger.ONE.shiftLeft(31)).longValue();
            int s = (int) ((w.draw / 65536) % (w.sayings.size() + 1));
            w.minute(s == w.sayings.size() ? NONE : s);
        }
        return w.boat;
    }
    int undo() {
        if (w.past.isEmpty()) return NONE;
        World was = w.past.removeLast();
        World back = was.twin();
        back.frost = w.frost;
        back.past = w.past;
        w = back;
        return w.past.size();
    }
    int seed(int v) {
        if (v < 0) return BAD;
        int was = (int) w.draw;
        w.draw = v;
        return was;
    }

    int rock(int s) { return noSaying(s) ? BAD : w.rocked(w.sayings.get(s)); }
    int next(int what) {
        if (noBit(what)) return BAD;
        int s = w.nextOne();
        return s == NONE || what == 0 ? s : w.rocked(w.sayings.get(s));
    }
    int greedy(int n, int what) {
        if (n < 0 || n > 99 || noBit(what)) return BAD;
        World t = w.pastless();
        for (int k = 0; k < n; k++) t.minute(t.nextOne());
        return what == 0 ? t.boat : t.ahead();
    }
    int through() {
        for (int n = 0; n <= 99; n++) if (greedy(n, 0) == w.ice.size()) return n;
        return NONE;
    }
    private int best(List<List<Integer>> orders, int k) {
        List<Integer> top = null;
        int far = 0, left = 0;
        for (List<Integer> order : orders) {
            World t = w.pastless();
            for (int s : order) t.minute(s);
            if (top == null || t.boat > far || (t.boat == far && t.ahead() < left)) {
                top = order; far = t.boat; left = t.ahead();
            }
        }
        if (top == null) return NONE;
        return k == -1 ? far : k < top.size() ? top.get(k) : NONE;
    }
    private List<List<Integer>> orders(int n) {
        List<List<Integer>> out = new ArrayList<>();
        if (n == 0) { out.add(List.of()); return out; }
        for (List<Integer> head : orders(n - 1))
            for (int s = 0; s < w.sayings.size(); s++) {
                List<Integer> more = new ArrayList<>(head);
                more.add(s);
                out.add(more);
            }
        return out;
    }
    int plan(int n, int k) {
        if (n < 1 || n > 4 || k < -1) return BAD;
        return best(orders(n), k);
    }
    int once(int k) {
        if (k < -1) return BAD;
        if (w.sayings.isEmpty()) return NONE;
        List<List<Integer>> some = orders(w.sayings.size());
        some.removeIf(o -> o.stream().distinct().count() != o.size());
        return best(some, k);
    }
    int crew(int s, int k, int what) {
        if (noSaying(s) || k < 1 || k > 6 || noBit(what)) return BAD;
        int top = -1, set = 0;
        for (int c = 0; c < 1 << w.people.size(); c++)
            if (Integer.bitCount(c) == k && w.rocked(w.sayings.get(s), all(c)) > top) {
                top = w.rocked(w.sayings.get(s), all(c));
                set = c;
            }
        return top < 0 ? NONE : what == 0 ? top : set;
    }
    private int flipped(int s, int set) {
        Saying x = w.sayings.get(s).twin();
        for (int p = 0; p < 6; p++) x.isFor[p] ^= (set >> p & 1) == 1;
        return w.rocked(x);
    }
    int minds(int s, int what) {
        if (noSaying(s) || noBit(what)) return BAD;
        int top = rock(s), who = NONE;
        for (int p = 0; p < w.people.size(); p++) if (flipped(s, 1 << p) > top) { top = flipped(s, 1 << p); who = p; }
        return who == NONE ? NONE : what == 0 ? who : top;
    }
    int sway(int s, int r, int what) {
        if (noSaying(s) || r < 1 || r > 200 || noBit(what)) return BAD;
        for (int many = 0; many <= 6; many++)
            for (int set = 0; set < 1 << w.people.size(); set++)
                if (Integer.bitCount(set) == many && flipped(s, set) >= r) return what == 0 ? many : set;
        return NONE;
    }
    int boats(int what) {
        if (noBit(what)) return BAD;
        int top = -1, set = 0, full = (1 << w.people.size()) - 1;
        for (int c = 0; c <= full; c++) {
            final int in = c;
            int a = w.sayings.stream().mapToInt(s -> w.rocked(s, all(in))).max().orElse(0);
            int b = w.sayings.stream().mapToInt(s -> w.rocked(s, all(full - in))).max().orElse(0);
            if (Math.min(a, b) > top) { top = Math.min(a, b); set = c; }
        }
        return what == 0 ? set : top;
    }
    int ring(int what) {
        if (noBit(what)) return BAD;
        Map<String, Integer> seen = new HashMap<>();
        World t = w.pastless();
        seen.put(t.key(), 0);
        for (int n = 1; n <= 200; n++) {
            t.minute(t.nextOne());
            Integer was = seen.put(t.key(), n);
            if (was != null) return what == 0 ? n : n - was;
        }
        return NONE;
    }
    int enough(int s) {
        if (noSaying(s)) return BAD;
        if (w.through()) return NONE;
        for (int j = 0; j <= 20; j++) {
            World t = w.pastless();
            t.sayings.get(s).juice = j;
            t.minute(s);
            if (t.boat > w.boat) return j;
        }
        return NONE;
    }
    int sick(int s, int c, int what) {
        if (noSaying(s) || c < 0 || c > 10 || noBit(what)) return BAD;
        BigInteger up = BigInteger.ZERO, down = BigInteger.TEN.pow(w.people.size());
        if (!w.through())
            for (int set = 0; set < 1 << w.people.size(); set++)
                if (w.rocked(w.sayings.get(s), all(set)) >= w.ahead()) {
                    BigInteger chance = BigInteger.ONE;
                    for (int p = 0; p < w.people.size(); p++)
                        chance = chance.multiply(BigInteger.valueOf((set >> p & 1) == 1 ? 10 - c : c));
                    up = up.add(chance);
                }
        BigInteger g = up.gcd(down);
        return (what == 0 ? up : down).divide(g).intValue();
    }
    int image() { kept = w.twin(); return 1; }
    int restore() {
        if (kept == null) return NONE;
        w = kept.twin();
        return 1;
    }

    private static boolean noSheet(int s) { return s < 0 || s > 3; }

    private static long get(Object row, int lane, int i) {
        if (row == null) throw new NullPointerException();
        return switch (lane) {
            case 0 -> ((byte[]) row)[i];
            case 1 -> ((short[]) row)[i];
            case 2 -> ((int[]) row)[i];
            default -> ((long[]) row)[i];
        };
    }
    private static void put(Object row, int lane, int i, long v) {
        if (row == null) throw new NullPointerException();
        switch (lane) {
            case 0 -> ((byte[]) row)[i] = (byte) v;
            case 1 -> ((short[]) row)[i] = (short) v;
            case 2 -> ((int[]) row)[i] = (int) v;
            default -> ((long[]) row)[i] = v;
        }
    }
    private static int found(RuntimeException e) {
        if (e instanceof NullPointerException) return NULL;
        if (e instanceof ClassCastException || e instanceof ArrayStoreException) return CAST;
        if (e instanceof IndexOutOfBoundsException) return INDEX;
        if (e instanceof NegativeArraySizeException) return SIZE;
        throw e;
    }

    int felt(int sheet, int lane, int i, int n, int what) {
        if (noSheet(sheet) || noSheet(lane) || n < 1 || n > 5 || noBit(what)) return BAD;
        long[] pairs = new long[2 * n];
        try {
            for (int k = 0; k < 2 * n; k++) pairs[k] = get(sheets[sheet], lane, i + k);
        } catch (RuntimeException e) {
            return found(e);
        }
        for (int k = 0; k < n; k++) if (noSaying(pairs[2 * k])) return NOT;
        List<Integer> fit = new ArrayList<>();
        for (int set = 0; set < 1 << w.people.size(); set++) {
            boolean so = true;
            for (int k = 0; k < n; k++)
                so &= w.rocked(new Saying(w.sayings.get((int) pairs[2 * k]).juice, set)) == pairs[2 * k + 1];
            if (so) fit.add(set);
        }
        return what == 0 ? fit.size() : fit.isEmpty() ? NONE : fit.get(0);
    }
    int film(int cell, int n, int sheet, int lane, int i) {
        if (noCell(cell) || n < 1 || n > 12 || noCell(cell + n - 1) || noSheet(sheet) || noSheet(lane)) return BAD;
        try {
            for (int k = 0; k < n; k++) get(sheets[sheet], lane, i + k);
        } catch (RuntimeException e) {
            return found(e);
        }
        for (int k = 0; k < n; k++) put(sheets[sheet], lane, i + k, w.ice.get(cell + k));
        return n;
    }
    int sheet(int sheet, int lane, int n) {
        if (noSheet(sheet) || noSheet(lane) || n > 24) return BAD;
        try {
            sheets[sheet] = switch (lane) {
                case 0 -> new byte[n];
                case 1 -> new short[n];
                case 2 -> new int[n];
                default -> new long[n];
            };
        } catch (RuntimeException e) {
            return found(e);
        }
        return n;
    }
    int drop(int sheet) {
        if (noSheet(sheet)) return BAD;
        if (sheets[sheet] == null) return NULL;
        int had = java.lang.reflect.Array.getLength(sheets[sheet]);
        sheets[sheet] = null;
        return had;
    }
    int item(int sheet, int lane, int i, long v) {
        if (noSheet(sheet) || noSheet(lane)) return BAD;
        try {
            put(sheets[sheet], lane, i, v);
        } catch (RuntimeException e) {
            return found(e);
        }
        return 1;
    }
    int copy(int from, int i, int to, int j, int n) {
        if (noSheet(from) || noSheet(to)) return BAD;
        try {
            System.arraycopy(sheets[from], i, sheets[to], j, n);
        } catch (RuntimeException e) {
            return found(e);
        }
        return n;
    }
}
