import java.util.Random;

/** Random runs of calls, each answer compared with that of Model. */
public final class ModelTest {
    private static final int PROGRAMS = 30000, CALL_RUNS = 1500, CALLS = 512;
    private static final Due DUE = new Due();
    private static int branches, dropped, droppedAtOnce, full, barred, floats, deepBranches, infinite;

    public static void main(String[] args) {
        for (int seed = 0; seed < PROGRAMS; seed++) {
            compareProgram(seed);
        }
        for (int seed = 0; seed < CALL_RUNS; seed++) {
            compareCalls(seed);
        }
        System.out.println("branches " + branches + ", of branches " + deepBranches + ", dropped " + dropped
                + ", at once " + droppedAtOnce + ", eight traces " + full + ", barred " + barred
                + ", floats " + floats + ", without end " + infinite);
        DUE.holds("random programs reach every corner", branches > 100 && deepBranches > 100 && dropped > 100
                && droppedAtOnce > 20 && full > 30 && barred > 100 && floats > 100 && infinite > 100);
        DUE.end();
    }

    // ---- programs

    private static int upTo(Random random, int least, int most) {
        return least + random.nextInt(most - least + 1);
    }

    private static int register(Random random) {
        return random.nextInt(6) == 0 ? random.nextInt(8) : random.nextInt(4);
    }

    /** A code that is likely to be part of a loop: mostly small registers, jumps mostly back. */
    private static int[] someCode(Random random, int point, int size) {
        int kind = random.nextInt(20);
        kind = kind >= 10 ? new int[] {2, 2, 3, 4, 5, 6, 6, 6, 7, 8}[kind - 10] : kind;
        if (kind == 9 && random.nextInt(4) != 0 || kind == 0 && random.nextInt(2) == 0) {
            kind = 2;
        }
        int a = register(random) + (random.nextInt(3) == 0 ? 8 : 0);
        if (kind >= 6) {
            a = random.nextInt(3) == 0 ? upTo(random, 0, Math.min(size, 23)) : upTo(random, 0, point);
        }
        int b = register(random) - (random.nextInt(3) == 0 ? 8 * random.nextInt(3000) : 0);
        if (kind == 0) {
            b = random.nextInt(3) == 0 ? upTo(random, -30000, 30000) : upTo(random, -3, 9);
        }
        return new int[] {kind, a, b, register(random)};
    }

    /**
     * A program that goes round: a counter in register 0, perhaps a loop within the loop, and
     * a body whose ways and kinds change from round to round (halves, jumps ahead).
     */
    private static int[][] roundProgram(Random random) {
        int body = upTo(random, 2, 17);
        int size = body + 5;
        int[][] out = new int[size][];
        out[0] = new int[] {0, 1, upTo(random, 1, 3), 0};
        out[1] = new int[] {0, 7, upTo(random, 5, 90), 0};
        out[2] = random.nextInt(3) == 0 ? someCode(random, 2, size) : new int[] {0, 2, upTo(random, -4, 30), 0};
        for (int i = 3; i < body + 3; i++) {
            out[i] = bodyCode(random, i, body + 3);
        }
        out[size - 2] = new int[] {2, 0, 0, 1};
        out[size - 1] = random.nextInt(3) == 0
                ? new int[] {7, upTo(random, 2, 4), 0, 0} : new int[] {6, upTo(random, 2, 4), 0, 7};
        return out;
    }

    private static int[] bodyCode(Random random, int point, int end) {
        int x = upTo(random, 2, 6);
        int y = random.nextInt(8);
        int z = random.nextInt(8);
        int ahead = upTo(random, point + 1, Math.max(point + 1, Math.min(end, point + 4)));
        switch (random.nextInt(12)) {
            case 0: case 1: return new int[] {5, x, 0, random.nextInt(2) == 0 ? 0 : z};
            case 2: case 3: return new int[] {8, ahead, 0, z};
            case 4: case 5: return new int[] {6, ahead, y, z};
            case 6: return new int[] {3, x, y, z};
            case 7: return new int[] {random.nextInt(2) == 0 ? 4 : 2, x, y, z};
            case 8: return new int[] {1, x, 0, z};
            case 9: return new int[] {0, x, upTo(random, -9, 40), 0};
            case 10: return someCode(random, point, end);
            default: return new int[] {2, x, y, z};
        }
    }

    /** A loop without end in which three counters begin anew after a few rounds each: its ways are many. */
    private static int[][] counterProgram(Random random) {
        int extra = upTo(random, 0, 3);
        int[][] out = new int[14 + extra][];
        int[] counters = {0, 2, 3};
        out[0] = new int[] {0, 1, random.nextInt(6) == 0 ? -1 : 1, 0};
        for (int i = 0; i < 3; i++) {
            out[1 + i] = new int[] {0, 4 + i, upTo(random, 2, 5), 0};
            int at = 4 + 3 * i;
            out[at] = new int[] {2, counters[i], counters[i], 1};
            out[at + 1] = new int[] {6, at + 3, counters[i], 4 + i};
            out[at + 2] = new int[] {0, counters[i], upTo(random, -1, 1), 0};
        }
        for (int i = 13; i < 13 + extra; i++) {
            int[][] some = {{5, 7, 0, counters[random.nextInt(3)]}, {8, i + 1, 0, 7}, {2, 7, 7, 3}};
            out[i] = some[random.nextInt(3)];
        }
        out[13 + extra] = new int[] {7, random.nextInt(3) == 0 ? 3 : 4, 0, 0};
        return out;
    }

    /** A loop that gets hot only later, within one that has a trace: branches begin at the head of another trace. */
    private static int[][] lateProgram(Random random) {
        return new int[][] {{0, 1, 1, 0}, {0, 2, upTo(random, 2, 5), 0}, {0, 4, upTo(random, -20, 0), 0},
            {0, 5, upTo(random, 2, 25), 0}, {2, 0, 0, 1}, {random.nextInt(4) == 0 ? 8 : 6, 6, 0, 5}, {2, 3, 3, 1},
            random.nextInt(3) == 0 ? bodyCode(random, 7, 12) : new int[] {5, 7, 0, random.nextInt(4)},
            {6, upTo(random, 5, 6), 3, 4}, {2, 4, 4, 2}, random.nextInt(3) == 0 ? bodyCode(random, 10, 12)
                : new int[] {2, 6, 3, 4}, {7, upTo(random, 3, 4), 0, 0}};
    }

    private static int[][] anyProgram(Random random) {
        int way = random.nextInt(5);
        if (way < 4) {
            return way == 0 ? counterProgram(random) : way == 1 ? lateProgram(random) : roundProgram(random);
        }
        int size = upTo(random, 1, 24);
        int[][] out = new int[size][];
        for (int i = 0; i < size; i++) {
            out[i] = someCode(random, i, size);
        }
        return out;
    }

    private static int someNumber(Random random) {
        switch (random.nextInt(4)) {
            case 0: return random.nextInt();
            case 1: return Integer.MAX_VALUE - random.nextInt(3);
            case 2: return Integer.MIN_VALUE + random.nextInt(3);
            default: return upTo(random, -20, 20);
        }
    }

    private static void compareProgram(int seed) {
        Random random = new Random(seed);
        TraceTrees x = new TraceTrees();
        Model m = new Model();
        for (int[] c : anyProgram(random)) {
            DUE.is("seed " + seed + ": add", x.add(c[0], c[1], c[2], c[3]), m.add(c[0], c[1], c[2], c[3]));
        }
        for (int i = random.nextInt(5); i > 0; i--) {
            int r = random.nextInt(8);
            int kind = random.nextInt(2);
            int v = someNumber(random);
            DUE.is("seed " + seed + ": load", x.load(r, kind, v), m.load(r, kind, v));
        }
        if (random.nextInt(2) == 0) {
            int limit = random.nextInt(4) == 0 ? upTo(random, 0, 40) : upTo(random, 200, 600);
            DUE.is("seed " + seed + ": set", x.set(0, limit), m.set(0, limit));
        }
        if (random.nextInt(2) == 0) {
            int hot = upTo(random, 2, 5);
            DUE.is("seed " + seed + ": set", x.set(1, hot), m.set(1, hot));
        }
        DUE.is("seed " + seed + ": digest", x.digest(), digestOf(m));
        note(m.run());
    }

    private static void note(Model.Outcome o) {
        for (Model.Trace t : o.traces) {
            branches += t.stem >= 0 ? 1 : 0;
            deepBranches += t.stem >= 0 && o.traces.get(t.stem).stem >= 0 ? 1 : 0;
        }
        dropped += o.dropped;
        droppedAtOnce += o.droppedAtOnce;
        full += o.traces.size() == 8 ? 1 : 0;
        for (int point = 0; point < 24; point++) {
            barred += o.drops[point] >= 2 ? 1 : 0;
        }
        for (Object it : o.registers) {
            if (it instanceof Float) {
                floats++;
                float f = (Float) it;
                infinite += Float.isInfinite(f) || Float.isNaN(f) ? 1 : 0;
            }
        }
    }

    private static long digestOf(Model m) {
        long h = 17;
        for (int i = 0; i < 8; i++) {
            h = 31 * h + m.count(i);
        }
        for (int i = 0; i < 6; i++) {
            h = 31 * h + m.ends(i);
        }
        for (int r = 0; r < 8; r++) {
            h = 31 * h + m.value(r, 0);
            h = 31 * h + m.value(r, 1);
            h = 31 * h + m.plain(r, 0);
            h = 31 * h + m.plain(r, 1);
        }
        for (int p = 0; p < 24; p++) {
            for (int i = 0; i < 4; i++) {
                h = 31 * h + m.code(p, i);
            }
            for (int i = 0; i < 3; i++) {
                h = 31 * h + m.heat(p, i);
            }
        }
        for (int t = 0; t < 8; t++) {
            h = digestOfTrace(m, t, h);
        }
        h = 31 * h + m.better(0);
        return 31 * h + m.better(1);
    }

    private static long digestOfTrace(Model m, int t, long start) {
        long h = start;
        for (int i = 0; i < 5; i++) {
            h = 31 * h + m.trace(t, i);
        }
        for (int i = 0; i < 3; i++) {
            h = 31 * h + m.checks(t, i);
        }
        h = 31 * h + m.writes(t);
        for (int e = 0; e < 16; e++) {
            for (int i = 0; i < 6; i++) {
                h = 31 * h + m.entry(t, e, i);
            }
            h = 31 * h + m.snapshot(t, e, 0);
            h = 31 * h + m.snapshot(t, e, 1);
        }
        return h;
    }

    // ---- calls

    /** Mostly a number that may be, now and then one beside it or far away. */
    private static int pick(Random random, int least, int most) {
        int way = random.nextInt(40);
        if (way == 0) {
            return least - 1;
        }
        if (way == 1) {
            return most + 1;
        }
        if (way == 2) {
            return random.nextInt();
        }
        return way == 3 ? Integer.MIN_VALUE : way == 4 ? Integer.MAX_VALUE : upTo(random, least, most);
    }

    private static void compareCalls(int seed) {
        Random random = new Random(1000000 + seed);
        TraceTrees x = new TraceTrees();
        Model m = new Model();
        if (seed % 3 != 0) {
            for (int[] c : anyProgram(random)) {
                DUE.is("calls " + seed + ": add", x.add(c[0], c[1], c[2], c[3]), m.add(c[0], c[1], c[2], c[3]));
            }
        }
        int calls = CALLS - m.code.size() - 1;
        for (int i = 0; i < calls; i++) {
            int which = random.nextInt(40);
            String name = "calls " + seed + ", call " + i + ", which " + which;
            if (which < 14) {
                changingCall(name, which, random, x, m);
            } else if (which < 26) {
                askingCall(name, which, random, x, m);
            } else {
                sheetCall(name, which, random, x, m);
            }
        }
        DUE.is("calls " + seed + ": digest", x.digest(), digestOf(m));
    }

    private static void changingCall(String name, int which, Random random, TraceTrees x, Model m) {
        int size = m.code.size();
        int[] c = someCode(random, Math.min(size, 23), size);
        int spoilt = random.nextInt(60);
        if (spoilt < 4) {
            c[spoilt] = pick(random, -1, 30);
        }
        switch (which) {
            case 0: case 1: case 2: case 3: case 4: case 5:
                DUE.is(name, x.add(c[0], c[1], c[2], c[3]), m.add(c[0], c[1], c[2], c[3]));
                break;
            case 6: case 7:
                int point = pick(random, 0, Math.max(size - 1, 0));
                DUE.is(name, x.alter(point, c[0], c[1], c[2], c[3]), m.alter(point, c[0], c[1], c[2], c[3]));
                break;
            case 8: case 9:
                DUE.is(name, x.back(), m.back());
                break;
            case 10: case 11:
                int register = pick(random, 0, 7);
                int kind = pick(random, 0, 1);
                int v = someNumber(random);
                DUE.is(name, x.load(register, kind, v), m.load(register, kind, v));
                break;
            case 12:
                int what = pick(random, 0, 1);
                int to = pick(random, what == 0 ? 0 : 2, what == 0 ? 600 : 9);
                DUE.is(name, x.set(what, to), m.set(what, to));
                break;
            default:
                int s = pick(random, 0, 3);
                DUE.is(name, x.read(s), m.read(s));
        }
    }

    private static void askingCall(String name, int which, Random random, TraceTrees x, Model m) {
        int t = pick(random, 0, Math.max(m.count(3) - 1, 0));
        int e = pick(random, 0, 5);
        int r = pick(random, 0, 7);
        int p = pick(random, 0, 23);
        int w = pick(random, 0, 5);
        switch (which) {
            case 14: DUE.is(name, x.code(p, w), m.code(p, w)); break;
            case 15: DUE.is(name, x.value(r, w & 1), m.value(r, w & 1)); break;
            case 16: DUE.is(name, x.plain(r, w & 1), m.plain(r, w & 1)); break;
            case 17: DUE.is(name, x.ends(w), m.ends(w)); break;
            case 18: DUE.is(name, x.heat(p, w), m.heat(p, w)); break;
            case 19: DUE.is(name, x.trace(t, w), m.trace(t, w)); break;
            case 20: DUE.is(name, x.entry(t, e, w), m.entry(t, e, w)); break;
            case 21: DUE.is(name, x.checks(t, w), m.checks(t, w)); break;
            case 22: DUE.is(name, x.snapshot(t, e, w), m.snapshot(t, e, w)); break;
            case 23: DUE.is(name, x.writes(t), m.writes(t)); break;
            case 24: DUE.is(name, x.better(w), m.better(w)); break;
            default: DUE.is(name, x.value(r, w) + 3L * x.plain(r, w), m.value(r, w) + 3L * m.plain(r, w));
        }
    }

    private static void sheetCall(String name, int which, Random random, TraceTrees x, Model m) {
        int s = pick(random, 0, 3);
        int t = pick(random, 0, 3);
        int form = s >= 0 && s < 4 && random.nextInt(8) != 0 ? m.forms[s] : pick(random, 0, 2);
        int i = pick(random, 0, 12);
        int j = pick(random, 0, 12);
        int n = pick(random, 0, 20);
        int v = random.nextInt(3) == 0 ? someNumber(random) : upTo(random, 0, 9);
        switch (which) {
            case 26: case 27: DUE.is(name, x.sheet(s, form, n), m.sheet(s, form, n)); break;
            case 28: DUE.is(name, x.lose(s), m.lose(s)); break;
            case 29: case 30: case 31: case 32: case 33:
                DUE.is(name, x.lay(s, form, i, v), m.lay(s, form, i, v));
                break;
            case 34: DUE.is(name, x.get(s, form, i), m.get(s, form, i)); break;
            case 35: case 36: DUE.is(name, x.copy(s, i, t, j, n / 2), m.copy(s, i, t, j, n / 2)); break;
            case 37: DUE.is(name, x.copy(s, i, t, j, n), m.copy(s, i, t, j, n)); break;
            case 38:
                int trace = pick(random, 0, Math.max(m.count(3) - 1, 0));
                DUE.is(name, x.write(trace, s), m.write(trace, s));
                break;
            default:
                int what = pick(random, 0, 8);
                DUE.is(name, x.count(what), m.count(what));
                DUE.is(name, x.count(8), m.count(8));
        }
    }
}
