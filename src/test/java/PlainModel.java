import java.util.ArrayList;
import java.util.Arrays;
import java.util.List;

/**
 * The document once more, written for plainness alone and by other ways than ChainsHold's: every question is asked of
 * a copy of the promises in which the thought has been done. ModelTest holds the two against each other.
 */
public final class PlainModel {
    static final int BAD = -1, NOT = -2, FULL = -3, STATE = -5, VOID = -2000000000;

    static final class One {
        int base, round, slack = 2;
    }

    static final class Vow implements Cloneable {
        int whose, made, due, links, kept = -1, with = -1;

        Vow copy() {
            Vow v = new Vow();
            v.whose = whose;
            v.made = made;
            v.due = due;
            v.links = links;
            v.kept = kept;
            v.with = with;
            return v;
        }

        boolean open(int d) {
            return made <= d && !(kept != -1 && kept <= d);
        }

        boolean touches(int one) {
            return whose == one || with == one;
        }
    }

    private final List<One> ones = new ArrayList<>();
    private List<Vow> vows = new ArrayList<>();
    private final StringBuilder tape = new StringBuilder();
    private String text;
    private final int[] led = new int[5];
    private int[] imageLed;
    private List<Integer> imageKepts;
    private final List<int[]> undoable = new ArrayList<>();
    private final List<int[]> redoable = new ArrayList<>();
    private final List<PlainActs.Link> bodies = new ArrayList<>();
    private final List<Integer> bodyKinds = new ArrayList<>();
    private List<Integer> ran = new ArrayList<>();
    /** null, a PlainActs.Link, or an array of a Java kind of numbers. */
    private final Object[] shelves = new Object[6];

    // ---- people, promises

    public int person(int base, int round) {
        if (base < 0 || base > 30 || round < 1 || round > 60) return BAD;
        if (ones.size() == 6) return FULL;
        One one = new One();
        one.base = base;
        one.round = round;
        ones.add(one);
        return ones.size() - 1;
    }

    private boolean one(int n) {
        return n >= 0 && n < ones.size();
    }

    private boolean vow(int n, boolean any) {
        return n >= 0 && n < vows.size();
    }

    private static boolean day(int d) {
        return d >= 0 && d <= 99;
    }

    private int newVow(int whose, int made, int due, int links) {
        if (!one(whose) || !day(made) || !day(due) || due < made || links < 1 || links > 9) return BAD;
        if (vows.size() == 10) return FULL;
        Vow v = new Vow();
        v.whose = whose;
        v.made = made;
        v.due = due;
        v.links = links;
        vows.add(v);
        return vows.size() - 1;
    }

    public int promise(int wl, int md) {
        if (wl < 0 || md < 0) return BAD;
        return newVow(wl / 10, md / 100, md % 100, wl % 10);
    }

    public int promises(int shelf, int i, int n) {
        if (shelf < 0 || shelf > 5 || n < 1 || n > 10) return BAD;
        if (shelves[shelf] == null) return 0;
        if (!(shelves[shelf] instanceof byte[])) return -12;
        byte[] row = (byte[]) shelves[shelf];
        int came = 0;
        try {
            int at = i;
            for (int k = 0; k < n; k++) {
                if (newVow(row[at], row[at + 1], row[at + 2], row[at + 3]) < 0) break;
                at += 4;
                came++;
            }
        } catch (ArrayIndexOutOfBoundsException e) {
            return came;
        }
        return came;
    }

    private int get(int number, int what) {
        switch (what) {
            case 0: return ones.get(number).base;
            case 1: return ones.get(number).round;
            case 2: return ones.get(number).slack;
            case 3: return vows.get(number).due;
            case 4: return vows.get(number).links;
            case 5: return vows.get(number).kept;
            case 6: return vows.get(number).with;
            case 7: return vows.get(number).whose;
            default: return vows.get(number).made;
        }
    }

    private void set(int number, int what, int v) {
        switch (what) {
            case 0: ones.get(number).base = v; break;
            case 1: ones.get(number).round = v; break;
            case 2: ones.get(number).slack = v; break;
            case 3: vows.get(number).due = v; break;
            case 4: vows.get(number).links = v; break;
            case 5: vows.get(number).kept = v; break;
            default: vows.get(number).with = v; break;
        }
    }

    public int mend(int number, int what, int v) {
        if (what < 0 || what > 6 || of(number, what) == VOID) return VOID;
        int[] least = {0, 1, 0, 0, 1, -1, -1};
        int[] greatest = {30, 60, 9, 99, 9, 99, ones.size() - 1};
        if (v < least[what] || v > greatest[what]) return VOID;
        if (what == 3 && v < vows.get(number).made) return VOID;
        if (what == 6 && v == vows.get(number).whose) return VOID;
        int was = get(number, what);
        if (was == v) return was;
        set(number, what, v);
        undoable.add(new int[] {number, what, was, v});
        if (undoable.size() > 40) undoable.remove(0);
        redoable.clear();
        return was;
    }

    public int of(int number, int what) {
        if (what < 0 || what > 8 || !(what < 3 ? one(number) : vow(number, true))) return VOID;
        return get(number, what);
    }

    public int feed(int letter) {
        if (letter < 0 || letter > 255) return BAD;
        if (tape.length() == 120) return FULL;
        tape.append((char) letter);
        return tape.length();
    }

    public int law() {
        String read = tape.toString();
        tape.setLength(0);
        int fault = PlainLaw.faultOf(read);
        if (fault >= 0) return -100 - fault;
        text = read;
        return 1;
    }

    // ---- days in thought

    private int length(List<Vow> all, int one, int day) {
        return ones.get(one).base + all.stream().filter(v -> v.touches(one) && v.open(day)).mapToInt(v -> v.links).sum();
    }

    private boolean round(int one, int length) {
        One o = ones.get(one);
        return length >= o.round && length <= o.round + o.slack;
    }

    private boolean rides(List<Vow> all, int one, int day, boolean any) {
        return round(one, length(all, one, day));
    }

    private int loud(List<Vow> all, int p, int day) {
        Vow v = all.get(p);
        if (!v.open(day) || day <= v.due) return 0;
        int o = day - v.due;
        int loud = text == null ? o + v.links : PlainLaw.valueOf(text, o, v.links, length(all, v.whose, day),
                ones.get(v.whose).round, v.with >= 0 ? 1 : 0, p);
        return loud < 0 ? 0 : loud > 99 ? 99 : loud;
    }

    private int loudOf(List<Vow> all, int one, int day) {
        int sum = 0;
        for (int p = 0; p < all.size(); p++) if (all.get(p).touches(one)) sum += loud(all, p, day);
        return sum;
    }

    public int chain(int one, int day, int what) {
        if (!one(one) || !day(day) || what < 0 || what > 3) return BAD;
        if (what == 0) return length(vows, one, day);
        if (what == 1) return rides(vows, one, day, true) ? 1 : 0;
        if (what == 2) return loudOf(vows, one, day);
        return vows.stream().filter(v -> v.touches(one) && v.open(day) && day > v.due).mapToInt(v -> v.links).sum();
    }

    public int creak(int promise, int day) {
        return vow(promise, true) && day(day) ? loud(vows, promise, day) : BAD;
    }

    public int rides(int one, int a, int b) {
        if (!one(one) || !day(a) || b != -1 && (!day(b) || b < a)) return BAD;
        int rides = 0;
        for (int d = a; d <= (b == -1 ? 99 : b); d++) {
            if (rides(vows, one, d, true)) {
                if (b == -1) return d;
                rides++;
            }
        }
        return b == -1 ? NOT : rides;
    }

    public int ride(int one, int what) {
        if (!one(one) || what < 0 || what > 1) return BAD;
        for (int n = 100; n >= 1; n--) {
            for (int d = 0; d + n <= 100; d++) {
                if (rides(one, d, d + n - 1) == n) return what == 0 ? n : d;
            }
        }
        return what == 0 ? 0 : NOT;
    }

    private int who(List<Vow> all, int day) {
        int bits = 0;
        for (int o = 0; o < ones.size(); o++) if (rides(all, o, day, true)) bits |= 1 << o;
        return bits;
    }

    public int who(int day) {
        return day(day) ? who(vows, day) : BAD;
    }

    public int best(int what) {
        if (what < 0 || what > 1) return BAD;
        int best = 0;
        for (int d = 0; d < 100; d++) if (Integer.bitCount(who(d)) > Integer.bitCount(who(best))) best = d;
        return what == 0 ? best : Integer.bitCount(who(best));
    }

    private List<Vow> copies() {
        List<Vow> all = new ArrayList<>();
        for (Vow v : vows) all.add(v.copy());
        return all;
    }

    /** All sets of his OPEN ones that let him RIDE, as {set, how many, LINKS}. */
    private List<int[]> letting(int one, int day) {
        List<int[]> sets = new ArrayList<>();
        for (int set = 0; set < 1 << vows.size(); set++) {
            List<Vow> all = copies();
            boolean his = true;
            int links = 0;
            for (int p = 0; p < all.size(); p++) {
                if ((set & 1 << p) != 0) {
                    his &= all.get(p).whose == one && all.get(p).open(day);
                    all.get(p).kept = day;
                    links += all.get(p).links;
                }
            }
            if (his && rides(all, one, day, true)) sets.add(new int[] {set, Integer.bitCount(set), links});
        }
        return sets;
    }

    public int keepBy(int one, int day, int what) {
        if (!one(one) || !day(day) || what < 0 || what > 1) return BAD;
        List<int[]> sets = letting(one, day);
        sets.sort((a, b) -> a[1] != b[1] ? a[1] - b[1] : a[0] - b[0]);
        return sets.isEmpty() ? NOT : sets.get(0)[1 - what];
    }

    public int lightest(int one, int day, int what) {
        if (!one(one) || !day(day) || what < 0 || what > 1) return BAD;
        List<int[]> sets = letting(one, day);
        sets.sort((a, b) -> a[2] != b[2] ? a[2] - b[2] : a[1] != b[1] ? a[1] - b[1] : a[0] - b[0]);
        return sets.isEmpty() ? NOT : sets.get(0)[what == 0 ? 0 : 2];
    }

    public int ways(int one, int day) {
        return one(one) && day(day) ? letting(one, day).size() : BAD;
    }

    /** Day by day at that one of the set which is due first. */
    private boolean worksOut(int set) {
        int[] left = new int[vows.size()];
        for (int p = 0; p < left.length; p++) left[p] = (set & 1 << p) != 0 ? vows.get(p).links : 0;
        for (int d = 0; d < 100; d++) {
            int next = -1;
            for (int p = 0; p < left.length; p++) {
                Vow v = vows.get(p);
                if (left[p] > 0 && v.made <= d && v.due >= d && (next < 0 || v.due < vows.get(next).due)) next = p;
            }
            if (next >= 0) left[next]--;
        }
        return Arrays.stream(left).sum() == 0;
    }

    private int his(int one) {
        int his = 0;
        for (int p = 0; p < vows.size(); p++) if (vows.get(p).whose == one) his |= 1 << p;
        return his;
    }

    public int can(int one, int set) {
        if (!one(one) || (set | his(one)) != his(one)) return BAD;
        return worksOut(set) ? 1 : 0;
    }

    public int most(int one, int what) {
        if (!one(one) || what < 0 || what > 1) return BAD;
        int best = 0;
        for (int set = 1; set < 1 << vows.size(); set++) {
            if ((set | his(one)) == his(one) && Integer.bitCount(set) > Integer.bitCount(best) && worksOut(set)) best = set;
        }
        return what == 0 ? Integer.bitCount(best) : best;
    }

    public int clashes(int one, int what) {
        if (!one(one) || what < 0 || what > 1) return BAD;
        int count = 0;
        int least = NOT;
        for (int set = (1 << vows.size()) - 1; set > 0; set--) {
            if ((set | his(one)) != his(one) || worksOut(set)) continue;
            boolean clash = true;
            for (int p = 0; p < vows.size(); p++) if ((set & 1 << p) != 0) clash &= worksOut(set & ~(1 << p));
            if (clash) {
                count++;
                least = set;
            }
        }
        return what == 0 ? count : least;
    }

    // ---- handing on, books

    public int hand(int pt, int day) {
        if (pt < 0 || !vow(pt / 100, true) || !one(pt % 100) || vows.get(pt / 100).whose == pt % 100 || !day(day)) return BAD;
        if (vows.get(pt / 100).with != -1) return STATE;
        List<Vow> all = copies();
        all.get(pt / 100).whose = pt % 100;
        return Integer.bitCount(who(all, day));
    }

    public int handBest(int day, int what) {
        if (!day(day) || what < 0 || what > 1) return BAD;
        int most = Integer.bitCount(who(day));
        int which = NOT;
        for (int pt = 0; pt < 1000; pt++) {
            int riders = hand(pt, day);
            if (riders > most) {
                most = riders;
                which = pt;
            }
        }
        return which == NOT || what == 0 ? which : most;
    }

    private int wrong(List<Vow> all, short[] row, int one) {
        for (int d = 0; d < row.length; d++) if (row[d] != loudOf(all, one, d)) return d;
        return NOT;
    }

    public int judge(int shelf, int one) {
        if (shelf < 0 || shelf > 5 || !one(one)) return BAD;
        if (shelves[shelf] == null) return -11;
        return shelves[shelf] instanceof short[] ? wrong(vows, (short[]) shelves[shelf], one) : -12;
    }

    public int keptOn(int shelf, int promise, int one, int what) {
        if (shelf < 0 || shelf > 5 || !vow(promise, true) || !one(one) || what < 0 || what > 1) return VOID;
        if (!(shelves[shelf] instanceof short[])) return VOID;
        int count = 0;
        int least = -9;
        for (int k = 99; k >= -1; k--) {
            List<Vow> all = copies();
            all.get(promise).kept = k;
            if (wrong(all, (short[]) shelves[shelf], one) == NOT) {
                count++;
                least = k;
            }
        }
        return what == 0 ? count : least;
    }

    public int whose(int shelf) {
        if (shelf < 0 || shelf > 5) return BAD;
        if (shelves[shelf] == null) return -11;
        if (!(shelves[shelf] instanceof short[])) return -12;
        int bits = 0;
        for (int o = 0; o < ones.size(); o++) if (judge(shelf, o) == NOT) bits |= 1 << o;
        return bits;
    }

    /** turns left: an even number of turns gone means that he is on. */
    private int outcome(int one, int day, List<Vow> all, int more, int gone, int n) {
        if (gone == n) return round(one, length(all, one, day) + more) ? 1 : 0;
        if (gone % 2 != 0) {
            return Math.min(outcome(one, day, all, more, gone + 1, n), outcome(one, day, all, more + 1, gone + 1, n));
        }
        int best = outcome(one, day, all, more, gone + 1, n);
        for (Vow v : all) {
            if (v.whose == one && v.open(day)) {
                int was = v.kept;
                v.kept = day;
                best = Math.max(best, outcome(one, day, all, more, gone + 1, n));
                v.kept = was;
            }
        }
        return best;
    }

    public int byTurns(int one, int dn, int what) {
        if (!one(one) || dn < 0 || dn > 999 || dn % 10 < 1 || dn % 10 > 6 || what < 0 || what > 1) return BAD;
        int best = outcome(one, dn / 10, copies(), 0, 0, dn % 10);
        if (what == 0) return best;
        for (int p = 0; p < vows.size(); p++) {
            if (vows.get(p).whose != one || !vows.get(p).open(dn / 10)) continue;
            List<Vow> all = copies();
            all.get(p).kept = dn / 10;
            if (outcome(one, dn / 10, all, 0, 1, dn % 10) == best) return p;
        }
        return 10;
    }

    public int loudest(int what) {
        if (what < 0 || what > 1) return BAD;
        int best = -1;
        int at = 0;
        for (int d = 0; d < 100; d++) {
            int sum = 0;
            for (int p = 0; p < vows.size(); p++) sum += loud(vows, p, d);
            if (sum > best) {
                best = sum;
                at = d;
            }
        }
        return what == 0 ? at : best;
    }

    public int drawn(int seed, int n, int one, int day) {
        if (n < 1 || n > 30 || !one(one) || day != -1 && !day(day)) return BAD;
        int z = seed;
        int count = 0;
        for (int life = 0; life < n; life++) {
            List<Vow> all = copies();
            for (Vow v : all) {
                z = z * 1103515245 + 12345;
                int d = (z >>> 8) % 100;
                v.kept = d < v.made ? -1 : d;
            }
            for (int d = 0; d < 100; d++) if ((day == -1 || day == d) && rides(all, one, d, true)) count++;
        }
        return count;
    }

    // ---- in deed

    public int passes() {
        if (led[4] == 99) return STATE;
        led[3] += Integer.bitCount(who(led[4]));
        led[0]++;
        return ++led[4];
    }

    public int vow(int wl, int due) {
        if (wl < 0) return BAD;
        int number = newVow(wl / 10, led[4], due, wl % 10);
        if (number >= 0) led[1]++;
        return number;
    }

    public int kept(int promise) {
        if (!vow(promise, true)) return BAD;
        if (!vows.get(promise).open(led[4])) return STATE;
        vows.get(promise).kept = led[4];
        led[2]++;
        return (int) vows.stream().filter(v -> v.open(led[4])).count();
    }

    public int led(int what) {
        return what < 0 || what > 4 ? BAD : led[what];
    }

    public int image() {
        imageLed = led.clone();
        imageKepts = new ArrayList<>();
        for (Vow v : vows) imageKepts.add(v.kept);
        return led[4];
    }

    public int back() {
        if (imageLed == null) return STATE;
        System.arraycopy(imageLed, 0, led, 0, 5);
        for (int p = 0; p < imageKepts.size(); p++) vows.get(p).kept = imageKepts.get(p);
        return led[4];
    }

    public int undo() {
        if (undoable.isEmpty()) return STATE;
        int[] change = undoable.remove(undoable.size() - 1);
        set(change[0], change[1], change[2]);
        redoable.add(change);
        return undoable.size();
    }

    public int redo() {
        if (redoable.isEmpty()) return STATE;
        int[] change = redoable.remove(redoable.size() - 1);
        set(change[0], change[1], change[3]);
        undoable.add(change);
        return redoable.size();
    }

    // ---- acts, shelves

    public int body(int kind) {
        if (kind < 0 || kind > 7) return BAD;
        if (bodies.size() == 50) return FULL;
        bodies.add(PlainActs.make(kind, bodies.size()));
        bodyKinds.add(kind);
        return bodies.size() - 1;
    }

    public int act(int body, int act, int x) {
        ran = new ArrayList<>();
        if (body < 0 || body >= bodies.size() || act < 0 || act > 3) return 0;
        PlainActs.Link link = bodies.get(body);
        link.ran.clear();
        int answer = act == 0 ? link.holds(x) : act == 1 ? link.rides(x) : act == 2 ? link.creaks(x) : link.tells(x);
        ran = new ArrayList<>(link.ran);
        return answer;
    }

    public int trace(int i) {
        return i < 0 || i >= ran.size() || i >= 24 ? BAD : ran.get(i);
    }

    public int keep(int shelf, int body) {
        if (shelf < 0 || shelf > 5 || body < -1 || body >= bodies.size()) return BAD;
        shelves[shelf] = body == -1 ? null : bodies.get(body);
        return 1;
    }

    public int row(int shelf, int sort, int n) {
        if (shelf < 0 || shelf > 5 || sort < 0 || sort > 4 || n > 60) return BAD;
        if (n < 0) return -14;
        Object[] rows = {new byte[n], new short[n], new int[n], new long[n], new boolean[n]};
        shelves[shelf] = rows[sort];
        return 1;
    }

    public int put(int shelf, int i, long v) {
        if (shelf < 0 || shelf > 5) return BAD;
        Object held = shelves[shelf];
        if (held == null) return -11;
        if (held instanceof PlainActs.Link) return -12;
        if (i < 0 || i >= java.lang.reflect.Array.getLength(held)) return -13;
        if (held instanceof byte[]) ((byte[]) held)[i] = (byte) v;
        else if (held instanceof short[]) ((short[]) held)[i] = (short) v;
        else if (held instanceof int[]) ((int[]) held)[i] = (int) v;
        else if (held instanceof long[]) ((long[]) held)[i] = v;
        else ((boolean[]) held)[i] = v != 0;
        return 1;
    }

    public long element(int shelf, int i) {
        if (shelf < 0 || shelf > 5) return Long.MIN_VALUE;
        Object held = shelves[shelf];
        if (held == null || held instanceof PlainActs.Link) return Long.MIN_VALUE;
        if (i < 0 || i >= java.lang.reflect.Array.getLength(held)) return Long.MIN_VALUE;
        if (held instanceof boolean[]) return ((boolean[]) held)[i] ? 1 : 0;
        return java.lang.reflect.Array.getLong(held, i);
    }

    public int shift(int shelf, int i, int other, int j, int n) {
        if (shelf < 0 || shelf > 5 || other < 0 || other > 5) return BAD;
        Object from = shelves[shelf];
        Object to = shelves[other];
        if (from == null || to == null) return -11;
        if (from instanceof PlainActs.Link || from.getClass() != to.getClass()) return -12;
        try {
            System.arraycopy(from, i, to, j, n);
        } catch (ArrayIndexOutOfBoundsException e) {
            return -13;
        }
        return n;
    }

    public int taken(int shelf, int k) {
        if (shelf < 0 || shelf > 5 || k < 0 || k > 7) return BAD;
        if (shelves[shelf] == null) return -11;
        if (!PlainActs.KINDS[k].isInstance(shelves[shelf])) return -12;
        return bodyKinds.get(((PlainActs.Link) shelves[shelf]).number);
    }

    public int count(int what) {
        int[] counts = {ones.size(), vows.size(), tape.length(), undoable.size(), bodies.size(), ran.size()};
        return what < 0 || what > 5 ? BAD : counts[what];
    }
}
