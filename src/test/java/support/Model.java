import java.util.ArrayList;
import java.util.HashMap;
import java.util.List;
import java.util.Map;

/**
 * The document once more, as plainly as can be, with Java's own floats.
 * The class under test is compared with it.
 */
final class Model {
    static final int LEAST = Integer.MIN_VALUE;
    static final int BAD = -2;

    static final class Entry {
        int point;
        int kindY;
        int kindZ;
        int way;
        int hits;
        int branch = -1;
    }

    static final class Trace {
        int head;
        int stem = -1;
        int stemEntry = -1;
        int begun;
        final List<Entry> entries = new ArrayList<>();
    }

    /** How one RUN came out. */
    static final class Outcome {
        final Object[] registers = new Object[8];
        final int[] heat = new int[24];
        final int[] drops = new int[24];
        final List<Trace> traces = new ArrayList<>();
        int how;
        int point;
        int steps;
        int compiled;
        int exits;
        int dropped;
        int droppedAtOnce;

        int rootAt(int point) {
            for (int i = 0; i < traces.size(); i++) {
                if (traces.get(i).head == point && traces.get(i).stem == -1) {
                    return i;
                }
            }
            return -1;
        }

        void drop(Trace recorded) {
            dropped++;
            heat[recorded.head] = 0;
            drops[recorded.head]++;
        }
    }

    final List<int[]> code = new ArrayList<>();
    final Object[] loaded = {0, 0, 0, 0, 0, 0, 0, 0};
    final int[][] sheets = new int[4][];
    final int[] forms = new int[4];
    int limit = 200;
    int hot = 3;
    int finding;
    /** The RUNS of the program as it is, by how hot is HOT. */
    private final Map<Integer, Outcome> runs = new HashMap<>();

    // ---- what a STEP does

    private static float asFloat(Object it) {
        return it instanceof Integer ? (float) (int) (Integer) it : (Float) it;
    }

    private static int kindOf(Object it) {
        return it instanceof Integer ? 0 : 1;
    }

    private Object made(int[] c, Object[] r) {
        Object y = r[Math.floorMod(c[2], 8)];
        Object z = r[c[3]];
        boolean wholes = y instanceof Integer && z instanceof Integer;
        switch (c[0]) {
            case 0: return c[2];
            case 1: return z;
            case 2: case 3: case 4:
                if (wholes) {
                    long p = (Integer) y;
                    long q = (Integer) z;
                    long exact = c[0] == 2 ? p + q : c[0] == 3 ? p - q : p * q;
                    if (exact >= Integer.MIN_VALUE && exact <= Integer.MAX_VALUE) {
                        return (int) exact;
                    }
                    return (float) exact;
                }
                float p = asFloat(y);
                float q = asFloat(z);
                return c[0] == 2 ? p + q : c[0] == 3 ? p - q : p * q;
            case 5:
                if (z instanceof Integer && (Integer) z % 2 == 0) {
                    return (Integer) z / 2;
                }
                return asFloat(z) * 0.5f;
            default: return null;
        }
    }

    private boolean jumps(int[] c, Object[] r) {
        Object y = r[Math.floorMod(c[2], 8)];
        Object z = r[c[3]];
        if (c[0] == 6) {
            return y instanceof Integer && z instanceof Integer
                    ? (Integer) y < (Integer) z : asFloat(y) < asFloat(z);
        }
        return c[0] == 7 || c[0] == 8 && z instanceof Integer;
    }

    private Entry seen(int point, Object[] r) {
        int[] c = code.get(point);
        Entry e = new Entry();
        e.point = point;
        e.kindY = kindOf(r[Math.floorMod(c[2], 8)]);
        e.kindZ = kindOf(r[c[3]]);
        if (c[0] >= 2 && c[0] <= 5) {
            e.way = kindOf(made(c, r));
        } else if (c[0] == 6 || c[0] == 8) {
            e.way = jumps(c, r) ? 1 : 0;
        }
        return e;
    }

    private boolean readsY(int point) {
        int k = code.get(point)[0];
        return k == 2 || k == 3 || k == 4 || k == 6;
    }

    private boolean readsZ(int point) {
        int k = code.get(point)[0];
        return readsY(point) || k == 1 || k == 5 || k == 8;
    }

    private boolean fails(Entry was, Entry is) {
        return readsY(was.point) && was.kindY != is.kindY || readsZ(was.point) && was.kindZ != is.kindZ
                || was.way != is.way;
    }

    // ---- the RUN

    Outcome run(int hotness) {
        return runs.computeIfAbsent(hotness, this::runAnew);
    }

    private Outcome runAnew(int hotness) {
        Outcome o = new Outcome();
        System.arraycopy(loaded, 0, o.registers, 0, 8);
        Trace recorded = null;
        Trace compiling = null;
        int next = 0;
        boolean leftHere = false;
        while (true) {
            if (o.point >= code.size()) {
                o.how = 2;
                break;
            }
            if (o.steps == limit) {
                o.how = 0;
                break;
            }
            if (recorded != null) {
                boolean atHead = o.point == recorded.head;
                if (atHead && !recorded.entries.isEmpty()) {
                    if (recorded.stem != -1) {
                        o.traces.get(recorded.stem).entries.get(recorded.stemEntry).branch = o.traces.size();
                    }
                    o.traces.add(recorded);
                    recorded = null;
                } else if (recorded.entries.size() == 16 || !atHead && o.rootAt(o.point) != -1) {
                    o.droppedAtOnce += recorded.entries.isEmpty() ? 1 : 0;
                    o.drop(recorded);
                    recorded = null;
                    leftHere = false;
                }
            }
            if (recorded == null && compiling == null && !leftHere && o.rootAt(o.point) != -1) {
                compiling = o.traces.get(o.rootAt(o.point));
                compiling.begun++;
                next = 0;
            }
            Entry now = seen(o.point, o.registers);
            int[] c = code.get(o.point);
            if (compiling != null && fails(compiling.entries.get(next), now)) {
                Entry failed = compiling.entries.get(next);
                failed.hits++;
                o.exits++;
                if (failed.branch != -1) {
                    compiling = o.traces.get(failed.branch);
                    compiling.begun++;
                    next = 0;
                    continue;
                }
                leftHere = true;
                if (failed.hits == hotness && o.drops[compiling.head] < 2 && o.traces.size() < 8) {
                    recorded = new Trace();
                    recorded.head = compiling.head;
                    recorded.stem = o.traces.indexOf(compiling);
                    recorded.stemEntry = next;
                }
                compiling = null;
                continue;
            }
            leftHere = false;
            o.steps++;
            Object made = made(c, o.registers);
            boolean jump = jumps(c, o.registers);
            if (made != null) {
                o.registers[c[1] % 8] = made;
            }
            if (recorded != null) {
                recorded.entries.add(now);
            }
            if (c[0] == 9) {
                o.how = 1;
                break;
            }
            int from = o.point;
            o.point = jump ? c[1] : from + 1;
            boolean back = jump && o.point <= from;
            if (compiling != null) {
                o.compiled++;
                next++;
                if (next == compiling.entries.size()) {
                    compiling = o.traces.get(o.rootAt(compiling.head));
                    compiling.begun++;
                    next = 0;
                }
            } else if (recorded != null) {
                if (back && o.point != recorded.head) {
                    o.drop(recorded);
                    recorded = null;
                }
            } else if (back) {
                o.heat[o.point]++;
                if (o.heat[o.point] >= hotness && o.drops[o.point] < 2 && o.rootAt(o.point) == -1
                        && o.traces.size() < 8) {
                    recorded = new Trace();
                    recorded.head = o.point;
                }
            }
        }
        if (recorded != null) {
            o.drop(recorded);
        }
        return o;
    }

    Outcome run() {
        return run(hot);
    }

    // ---- the calls

    private static boolean within(int v, int least, int most) {
        return v >= least && v <= most;
    }

    private static boolean allowed(int k, int a, int b, int c) {
        return within(k, 0, 9) && within(a, 0, 23) && within(b, -30000, 30000) && within(c, 0, 7);
    }

    private int found(int number) {
        finding = number;
        return -10 - number;
    }

    int add(int k, int a, int b, int c) {
        runs.clear();
        if (!allowed(k, a, b, c)) {
            return BAD;
        }
        if (code.size() == 24) {
            return -4;
        }
        code.add(new int[] {k, a, b, c});
        return code.size();
    }

    int alter(int point, int k, int a, int b, int c) {
        runs.clear();
        if (!within(point, 0, code.size() - 1) || !allowed(k, a, b, c)) {
            return BAD;
        }
        code.set(point, new int[] {k, a, b, c});
        return 1;
    }

    int back() {
        runs.clear();
        if (code.isEmpty()) {
            return -3;
        }
        code.remove(code.size() - 1);
        return code.size();
    }

    int code(int point, int what) {
        return within(point, 0, code.size() - 1) && within(what, 0, 3) ? code.get(point)[what] : LEAST;
    }

    int load(int register, int kind, int v) {
        runs.clear();
        if (!within(register, 0, 7) || !within(kind, 0, 1)) {
            return BAD;
        }
        if (kind == 0) {
            loaded[register] = v;
        } else {
            loaded[register] = (float) v * 0.25f;
        }
        return 1;
    }

    int set(int what, int v) {
        runs.clear();
        int was;
        if (what == 0 && within(v, 0, 600)) {
            was = limit;
            limit = v;
            return was;
        }
        if (what == 1 && within(v, 2, 9)) {
            was = hot;
            hot = v;
            return was;
        }
        return BAD;
    }

    int read(int s) {
        if (!within(s, 0, 3)) {
            return BAD;
        }
        if (sheets[s] == null) {
            return found(1);
        }
        int many = 0;
        for (int i = 0; i + 4 <= sheets[s].length; i += 4) {
            int[] r = sheets[s];
            if (add(r[i], r[i + 1], r[i + 2], r[i + 3]) < 0) {
                break;
            }
            many++;
        }
        return many;
    }

    private static int told(Outcome o, int register, int what) {
        if (!within(register, 0, 7) || !within(what, 0, 1)) {
            return LEAST;
        }
        Object it = o.registers[register];
        if (what == 0) {
            return kindOf(it);
        }
        return it instanceof Integer ? (Integer) it : Float.floatToIntBits((Float) it);
    }

    int value(int register, int what) {
        return told(run(), register, what);
    }

    int plain(int register, int what) {
        return told(run(1000000), register, what);
    }

    int ends(int what) {
        Outcome o = run();
        return within(what, 0, 5)
                ? new int[] {o.how, o.point, o.steps, o.compiled, o.exits, o.dropped}[what] : BAD;
    }

    int heat(int point, int what) {
        Outcome o = run();
        if (!within(point, 0, 23) || !within(what, 0, 2)) {
            return BAD;
        }
        return new int[] {o.heat[point], o.drops[point] >= 2 ? 1 : 0, o.rootAt(point)}[what];
    }

    private Trace traceOf(Outcome o, int trace) {
        return within(trace, 0, o.traces.size() - 1) ? o.traces.get(trace) : null;
    }

    private Entry entryOf(Outcome o, int trace, int entry) {
        Trace t = traceOf(o, trace);
        return t != null && within(entry, 0, t.entries.size() - 1) ? t.entries.get(entry) : null;
    }

    int trace(int trace, int what) {
        Trace t = traceOf(run(), trace);
        if (t == null || !within(what, 0, 4)) {
            return BAD;
        }
        return new int[] {t.head, t.stem, t.stemEntry, t.entries.size(), t.begun}[what];
    }

    int entry(int trace, int entry, int what) {
        Entry e = entryOf(run(), trace, entry);
        if (e == null || !within(what, 0, 5)) {
            return BAD;
        }
        return new int[] {e.point, e.kindY, e.kindZ, e.way, e.hits, e.branch}[what];
    }

    private List<Integer> read(Entry e) {
        List<Integer> out = new ArrayList<>();
        int[] c = code.get(e.point);
        if (readsY(e.point)) {
            out.add(Math.floorMod(c[2], 8));
        }
        if (readsZ(e.point) && !out.contains(c[3])) {
            out.add(c[3]);
        }
        return out;
    }

    private int written(Entry e) {
        int[] c = code.get(e.point);
        return c[0] <= 5 ? c[1] % 8 : -1;
    }

    private boolean known(Trace t, int entry, int register) {
        for (int i = entry - 1; i >= 0; i--) {
            if (written(t.entries.get(i)) == register || read(t.entries.get(i)).contains(register)) {
                return true;
            }
        }
        return false;
    }

    int checks(int trace, int what) {
        Trace t = traceOf(run(), trace);
        if (t == null || !within(what, 0, 2)) {
            return BAD;
        }
        int[] many = new int[3];
        for (int i = 0; i < t.entries.size(); i++) {
            if (code.get(t.entries.get(i).point)[0] == 8) {
                continue;
            }
            for (int register : read(t.entries.get(i))) {
                many[0]++;
                if (!known(t, i, register)) {
                    many[1]++;
                    if ((bitsAhead(t, t.entries.size()) >> register & 1) == 0) {
                        many[2]++;
                    }
                }
            }
        }
        return many[what];
    }

    private int bitsAhead(Trace t, int entry) {
        int bits = 0;
        for (Entry e : t.entries.subList(0, entry)) {
            if (written(e) >= 0) {
                bits |= 1 << written(e);
            }
        }
        return bits;
    }

    int snapshot(int trace, int entry, int what) {
        Outcome o = run();
        if (entryOf(o, trace, entry) == null || !within(what, 0, 1)) {
            return BAD;
        }
        int bits = bitsAhead(o.traces.get(trace), entry);
        if (what == 1 && entry > 0) {
            bits &= ~bitsAhead(o.traces.get(trace), entry - 1);
        }
        return bits;
    }

    int writes(int trace) {
        Trace t = traceOf(run(), trace);
        return t == null ? BAD : bitsAhead(t, t.entries.size());
    }

    int better(int what) {
        int which = 2;
        for (int h = 3; h <= 9; h++) {
            if (run(h).compiled > run(which).compiled) {
                which = h;
            }
        }
        return what == 0 ? which : what == 1 ? run(which).compiled : BAD;
    }

    int sheet(int s, int form, int n) {
        if (!within(s, 0, 3) || !within(form, 0, 2) || n > 60) {
            return BAD;
        }
        if (n < 0) {
            return found(5);
        }
        sheets[s] = new int[n];
        forms[s] = form;
        return n;
    }

    int lose(int s) {
        if (!within(s, 0, 3)) {
            return BAD;
        }
        if (sheets[s] == null) {
            return found(1);
        }
        int had = sheets[s].length;
        sheets[s] = null;
        return had;
    }

    private int refusal(int s, int form, int i) {
        if (!within(s, 0, 3) || !within(form, 0, 2)) {
            return BAD;
        }
        if (sheets[s] == null) {
            return found(1);
        }
        if (forms[s] != form) {
            return found(3);
        }
        return within(i, 0, sheets[s].length - 1) ? 0 : found(2);
    }

    private void put(int s, int i, int v) {
        int shift = forms[s] == 0 ? 24 : forms[s] == 1 ? 16 : 0;
        sheets[s][i] = v << shift >> shift;
    }

    int lay(int s, int form, int i, int v) {
        int refused = refusal(s, form, i);
        if (refused != 0) {
            return refused;
        }
        put(s, i, v);
        return 1;
    }

    int get(int s, int form, int i) {
        return refusal(s, form, i) != 0 ? LEAST : sheets[s][i];
    }

    int copy(int s, int i, int t, int j, int n) {
        if (!within(s, 0, 3) || !within(t, 0, 3)) {
            return BAD;
        }
        if (sheets[s] == null || sheets[t] == null) {
            return found(1);
        }
        if (forms[s] != forms[t]) {
            return found(4);
        }
        if (i < 0 || j < 0 || n < 0 || (long) i + n > sheets[s].length || (long) j + n > sheets[t].length) {
            return found(2);
        }
        int[] was = sheets[s].clone();
        for (int k = 0; k < n; k++) {
            sheets[t][j + k] = was[i + k];
        }
        return 1;
    }

    int write(int trace, int s) {
        Trace t = traceOf(run(), trace);
        if (t == null || !within(s, 0, 3)) {
            return BAD;
        }
        if (sheets[s] == null) {
            return found(1);
        }
        int many = 0;
        while (many < sheets[s].length && many < t.entries.size()) {
            put(s, many, t.entries.get(many).point);
            many++;
        }
        return many;
    }

    int count(int what) {
        Outcome o = run();
        int entries = 0;
        for (Trace t : o.traces) {
            entries += t.entries.size();
        }
        return within(what, 0, 8) ? new int[] {code.size(), limit, hot, o.traces.size(), o.steps, o.compiled,
            o.exits, entries, finding}[what] : BAD;
    }
}
