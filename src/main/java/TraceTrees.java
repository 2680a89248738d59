import java.util.Arrays;

/** A tracing compiler for a small dynamic language; what it promises stands in the document DOC.md. */
public final class TraceTrees {
    public static final int NONE = -1, BAD = -2, NOT = -3, FULL = -4;

    private static final int LEAST = -2147483648;
    private static final int REGISTERS = 8, POINTS = 24, MOST_TRACES = 8, MOST_ENTRIES = 16;
    private static final int SHEETS = 4, MOST_ITEMS = 60, MOST_STEPS = 600;
    private static final int LEAST_HOT = 2, MOST_HOT = 9;
    /** No HEAT and no HITS ever come to this. */
    private static final int NEVER_HOT = 2147483647;
    private static final int WHOLE = 0, FLOAT = 1;
    private static final int SET = 0, COPY = 1, ADD = 2, SUB = 3, MUL = 4, HALVE = 5, LESS = 6, GO = 7, ASK = 8,
            STOP = 9;
    private static final int BY_LIMIT = 0, BY_STOP = 1, NO_CODE = 2;
    private static final int IS_NULL = 1, NO_INDEX = 2, BAD_CAST = 3, BAD_STORE = 4, BAD_SIZE = 5;

    private final Program program;
    private final Registers loaded;
    private final Sheet[] sheets;
    private final Machine machine;
    /** Runs that are only asked for an outcome; apart from machine, so that its traces stay. */
    private final Machine trial;
    private final Registers plainEnd;
    private int limit;
    private int hot;
    private int finding;
    private boolean runIsFresh;
    private boolean plainIsFresh;
    private boolean betterIsFresh;
    private int betterHot;
    private int betterCompiled;

    public TraceTrees() {
        program = new Program();
        loaded = new Registers();
        plainEnd = new Registers();
        machine = new Machine(program);
        trial = new Machine(program);
        sheets = new Sheet[SHEETS];
        for (int s = 0; s < SHEETS; s++) {
            sheets[s] = new Sheet();
        }
        limit = 200;
        hot = 3;
    }

    // ---- code, registers, limits

    public int add(int kind, int a, int b, int c) {
        if (!Program.allows(kind, a, b, c)) {
            return BAD;
        }
        if (program.size >= POINTS) {
            return FULL;
        }
        program.append(kind, a, b, c);
        forgetRuns();
        return program.size;
    }

    public int alter(int point, int kind, int a, int b, int c) {
        if (!program.holds(point) || !Program.allows(kind, a, b, c)) {
            return BAD;
        }
        program.put(point, kind, a, b, c);
        forgetRuns();
        return 1;
    }

    public int back() {
        if (program.size == 0) {
            return NOT;
        }
        program.size--;
        forgetRuns();
        return program.size;
    }

    public int code(int point, int what) {
        return codeFact(point, what);
    }

    public int load(int register, int kind, int v) {
        if (!isRegister(register) || kind < WHOLE || kind > FLOAT) {
            return BAD;
        }
        loaded.put(register, kind, kind == WHOLE ? v : Floats.quarterOf(v));
        forgetRuns();
        return 1;
    }

    public int set(int what, int v) {
        int before;
        if (what == 0 && v >= 0 && v <= MOST_STEPS) {
            before = limit;
            limit = v;
        } else if (what == 1 && v >= LEAST_HOT && v <= MOST_HOT) {
            before = hot;
            hot = v;
        } else {
            return BAD;
        }
        forgetRuns();
        return before;
    }

    public int read(int s) {
        if (!isSheet(s)) {
            return BAD;
        }
        Sheet from = sheets[s];
        if (from.isLost()) {
            return found(IS_NULL);
        }
        int taken = 0;
        for (int i = 0; i + 3 < from.size && program.size < POINTS; i += 4) {
            if (!Program.allows(from.items[i], from.items[i + 1], from.items[i + 2], from.items[i + 3])) {
                break;
            }
            program.append(from.items[i], from.items[i + 1], from.items[i + 2], from.items[i + 3]);
            taken++;
        }
        forgetRuns();
        return taken;
    }

    // ---- the run

    public int value(int register, int what) {
        refreshRun();
        return machine.registers.fact(register, what);
    }

    public int plain(int register, int what) {
        refreshPlain();
        return plainEnd.fact(register, what);
    }

    public int ends(int what) {
        refreshRun();
        return endFact(what);
    }

    public int heat(int point, int what) {
        refreshRun();
        return machine.forest.heatFact(point, what);
    }

    // ---- traces

    public int trace(int trace, int what) {
        refreshRun();
        return traceFact(trace, what);
    }

    public int entry(int trace, int entry, int what) {
        refreshRun();
        return entryFact(trace, entry, what);
    }

    public int checks(int trace, int what) {
        refreshRun();
        return checkFact(trace, what);
    }

    public int snapshot(int trace, int entry, int what) {
        refreshRun();
        return snapshotFact(trace, entry, what);
    }

    public int writes(int trace) {
        refreshRun();
        return writtenBy(trace);
    }

    public int better(int what) {
        refreshBetter();
        return betterFact(what);
    }

    // ---- sheets

    public int sheet(int s, int form, int n) {
        if (!isSheet(s) || !Sheet.isForm(form) || n > MOST_ITEMS) {
            return BAD;
        }
        if (n < 0) {
            return found(BAD_SIZE);
        }
        sheets[s].renew(form, n);
        return n;
    }

    public int lose(int s) {
        if (!isSheet(s)) {
            return BAD;
        }
        if (sheets[s].isLost()) {
            return found(IS_NULL);
        }
        int had = sheets[s].size;
        sheets[s].renew(NONE, 0);
        return had;
    }

    public int lay(int s, int form, int i, int v) {
        if (!isSheet(s) || !Sheet.isForm(form)) {
            return BAD;
        }
        int fault = sheets[s].faultAt(form, i);
        if (fault != 0) {
            return found(fault);
        }
        sheets[s].lower(i, v);
        return 1;
    }

    public int get(int s, int form, int i) {
        if (!isSheet(s) || !Sheet.isForm(form)) {
            return LEAST;
        }
        int fault = sheets[s].faultAt(form, i);
        if (fault != 0) {
            finding = fault;
            return LEAST;
        }
        return sheets[s].items[i];
    }

    public int copy(int s, int i, int t, int j, int n) {
        if (!isSheet(s) || !isSheet(t)) {
            return BAD;
        }
        Sheet from = sheets[s];
        Sheet to = sheets[t];
        if (from.isLost() || to.isLost()) {
            return found(IS_NULL);
        }
        if (from.form != to.form) {
            return found(BAD_STORE);
        }
        if (!from.hasSpan(i, n) || !to.hasSpan(j, n)) {
            return found(NO_INDEX);
        }
        System.arraycopy(from.items, i, to.items, j, n);
        return 1;
    }

    public int write(int trace, int s) {
        refreshRun();
        if (!machine.forest.has(trace) || !isSheet(s)) {
            return BAD;
        }
        Sheet to = sheets[s];
        if (to.isLost()) {
            return found(IS_NULL);
        }
        Trace from = machine.forest.traces[trace];
        int many = Math.min(from.size, to.size);
        for (int i = 0; i < many; i++) {
            to.lower(i, from.point[i]);
        }
        return many;
    }

    public int count(int what) {
        refreshRun();
        return countFact(what);
    }

    public long digest() {
        refreshRun();
        refreshPlain();
        refreshBetter();
        long h = 17;
        for (int what = 0; what < 8; what++) {
            h = 31 * h + countFact(what);
        }
        for (int what = 0; what < 6; what++) {
            h = 31 * h + endFact(what);
        }
        for (int register = 0; register < REGISTERS; register++) {
            h = mixRegister(h, register);
        }
        for (int point = 0; point < POINTS; point++) {
            h = mixPoint(h, point);
        }
        for (int trace = 0; trace < MOST_TRACES; trace++) {
            h = mixTrace(h, trace);
        }
        h = 31 * h + betterFact(0);
        return 31 * h + betterFact(1);
    }

    // ---- behind the face

    private static boolean isRegister(int register) {
        return register >= 0 && register < REGISTERS;
    }

    private static boolean isSheet(int s) {
        return s >= 0 && s < SHEETS;
    }

    private int found(int number) {
        finding = number;
        return -10 - number;
    }

    private void forgetRuns() {
        runIsFresh = false;
        plainIsFresh = false;
        betterIsFresh = false;
    }

    private void refreshRun() {
        if (!runIsFresh) {
            machine.go(loaded, limit, hot);
            runIsFresh = true;
        }
    }

    private void refreshPlain() {
        if (!plainIsFresh) {
            trial.go(loaded, limit, NEVER_HOT);
            plainEnd.become(trial.registers);
            plainIsFresh = true;
        }
    }

    private void refreshBetter() {
        if (betterIsFresh) {
            return;
        }
        betterHot = LEAST_HOT;
        betterCompiled = 0;
        for (int candidate = LEAST_HOT; candidate <= MOST_HOT; candidate++) {
            trial.go(loaded, limit, candidate);
            if (trial.compiled > betterCompiled) {
                betterHot = candidate;
                betterCompiled = trial.compiled;
            }
        }
        betterIsFresh = true;
    }

    private int codeFact(int point, int what) {
        if (!program.holds(point)) {
            return LEAST;
        }
        switch (what) {
            case 0: return program.kind[point];
            case 1: return program.a[point];
            case 2: return program.b[point];
            case 3: return program.c[point];
            default: return LEAST;
        }
    }

    private int endFact(int what) {
        switch (what) {
            case 0: return machine.how;
            case 1: return machine.point;
            case 2: return machine.steps;
            case 3: return machine.compiled;
            case 4: return machine.exits;
            case 5: return machine.forest.dropped;
            default: return BAD;
        }
    }

    private int traceFact(int trace, int what) {
        if (!machine.forest.has(trace)) {
            return BAD;
        }
        Trace told = machine.forest.traces[trace];
        switch (what) {
            case 0: return told.head;
            case 1: return told.stem;
            case 2: return told.stemEntry;
            case 3: return told.size;
            case 4: return told.begun;
            default: return BAD;
        }
    }

    private int entryFact(int trace, int entry, int what) {
        if (!machine.forest.hasEntry(trace, entry)) {
            return BAD;
        }
        Trace told = machine.forest.traces[trace];
        switch (what) {
            case 0: return told.point[entry];
            case 1: return told.kindY[entry];
            case 2: return told.kindZ[entry];
            case 3: return told.way[entry];
            case 4: return told.hits[entry];
            case 5: return told.branch[entry];
            default: return BAD;
        }
    }

    private int checkFact(int trace, int what) {
        if (!machine.forest.has(trace)) {
            return BAD;
        }
        return Survey.checksOf(program, machine.forest.traces[trace], what);
    }

    private int snapshotFact(int trace, int entry, int what) {
        if (!machine.forest.hasEntry(trace, entry) || what < 0 || what > 1) {
            return BAD;
        }
        Trace told = machine.forest.traces[trace];
        int now = Survey.writtenAhead(program, told, entry);
        return what == 0 ? now : now & ~Survey.writtenAhead(program, told, entry - 1);
    }

    private int writtenBy(int trace) {
        if (!machine.forest.has(trace)) {
            return BAD;
        }
        Trace told = machine.forest.traces[trace];
        return Survey.writtenAhead(program, told, told.size);
    }

    private int betterFact(int what) {
        switch (what) {
            case 0: return betterHot;
            case 1: return betterCompiled;
            default: return BAD;
        }
    }

    private int countFact(int what) {
        switch (what) {
            case 0: return program.size;
            case 1: return limit;
            case 2: return hot;
            case 3: return machine.forest.size;
            case 4: return machine.steps;
            case 5: return machine.compiled;
            case 6: return machine.exits;
            case 7: return machine.forest.entriesInAll();
            case 8: return finding;
            default: return BAD;
        }
    }

    private long mixRegister(long start, int register) {
        long h = start;
        h = 31 * h + machine.registers.fact(register, 0);
        h = 31 * h + machine.registers.fact(register, 1);
        h = 31 * h + plainEnd.fact(register, 0);
        return 31 * h + plainEnd.fact(register, 1);
    }

    private long mixPoint(long start, int point) {
        long h = start;
        for (int what = 0; what < 4; what++) {
            h = 31 * h + codeFact(point, what);
        }
        for (int what = 0; what < 3; what++) {
            h = 31 * h + machine.forest.heatFact(point, what);
        }
        return h;
    }

    private long mixTrace(long start, int trace) {
        long h = start;
        for (int what = 0; what < 5; what++) {
            h = 31 * h + traceFact(trace, what);
        }
        for (int what = 0; what < 3; what++) {
            h = 31 * h + checkFact(trace, what);
        }
        h = 31 * h + writtenBy(trace);
        for (int entry = 0; entry < MOST_ENTRIES; entry++) {
            for (int what = 0; what < 6; what++) {
                h = 31 * h + entryFact(trace, entry, what);
            }
            h = 31 * h + snapshotFact(trace, entry, 0);
            h = 31 * h + snapshotFact(trace, entry, 1);
        }
        return h;
    }

    /** The CODE at its POINTS, and which REGISTERS each of them uses. */
    private static final class Program {
        final int[] kind = new int[POINTS];
        final int[] a = new int[POINTS];
        final int[] b = new int[POINTS];
        final int[] c = new int[POINTS];
        int size;

        static boolean allows(int kind, int a, int b, int c) {
            return kind >= SET && kind <= STOP && a >= 0 && a < POINTS && b >= -30000 && b <= 30000
                    && c >= 0 && c < REGISTERS;
        }

        boolean holds(int point) {
            return point >= 0 && point < size;
        }

        void put(int point, int newKind, int newA, int newB, int newC) {
            kind[point] = newKind;
            a[point] = newA;
            b[point] = newB;
            c[point] = newC;
        }

        void append(int newKind, int newA, int newB, int newC) {
            put(size, newKind, newA, newB, newC);
            size++;
        }

        int x(int point) {
            return Math.floorMod(a[point], REGISTERS);
        }

        int y(int point) {
            return Math.floorMod(b[point], REGISTERS);
        }

        int z(int point) {
            return c[point];
        }

        boolean readsY(int point) {
            return (kind[point] >= ADD && kind[point] <= MUL) || kind[point] == LESS;
        }

        boolean readsZ(int point) {
            return readsY(point) || kind[point] == COPY || kind[point] == HALVE || kind[point] == ASK;
        }

        boolean writesX(int point) {
            return kind[point] <= HALVE;
        }
    }

    /** What each REGISTER holds: its kind, and the int itself or the bits of the float. */
    private static final class Registers {
        final int[] kind = new int[REGISTERS];
        final int[] bits = new int[REGISTERS];

        void put(int register, int newKind, int newBits) {
            kind[register] = newKind;
            bits[register] = newBits;
        }

        void become(Registers other) {
            for (int register = 0; register < REGISTERS; register++) {
                put(register, other.kind[register], other.bits[register]);
            }
        }

        int fact(int register, int what) {
            if (!isRegister(register) || what < 0 || what > 1) {
                return LEAST;
            }
            return what == 0 ? kind[register] : bits[register];
        }
    }

    /**
     * Floats as their bits, computed with whole numbers: the language that the class keeps to
     * has no way to the bits of a float, and lets no operation on floats answer NaN.
     */
    private static final class Floats {
        static final int SIGN = 0x80000000, MAGNITUDE = 0x7fffffff;
        static final int INFINITE = 0x7f800000, NAN = 0x7fc00000, HALF = 0x3f000000;
        static final int FRACTION_BITS = 23, HIDDEN_BIT = 0x00800000, FRACTION = 0x007fffff;
        /** Every finite float is a whole multiple of 2 to this power. */
        static final int LEAST_SCALE = -149;
        static final int INFINITE_FROM = 254;
        /** From here apart, the smaller of two floats is less than any half that rounding looks at. */
        static final int FAR = 38;

        static int ofWhole(long v) {
            return nearest(v < 0 ? SIGN : 0, Math.abs(v), 0);
        }

        static int quarterOf(long v) {
            return nearest(v < 0 ? SIGN : 0, Math.abs(v), -2);
        }

        static int ofRegister(int kind, int bits) {
            return kind == FLOAT ? bits : nearest(bits & SIGN, Math.abs((long) bits), 0);
        }

        static int sum(int p, int q) {
            if (isNan(p) || isNan(q)) {
                return NAN;
            }
            if (isInfinite(p)) {
                return isInfinite(q) && p != q ? NAN : p;
            }
            if (isInfinite(q)) {
                return q;
            }
            boolean pIsCoarse = scale(p) >= scale(q);
            int coarse = pIsCoarse ? p : q;
            int fine = pIsCoarse ? q : p;
            int apart = scale(coarse) - scale(fine);
            int shift = Math.min(apart, FAR);
            long small = apart > FAR ? Long.signum(signed(fine)) : signed(fine);
            long total = (signed(coarse) << shift) + small;
            int sign = total == 0 ? p & q & SIGN : total < 0 ? SIGN : 0;
            return nearest(sign, Math.abs(total), scale(coarse) - shift);
        }

        static int product(int p, int q) {
            if (isNan(p) || isNan(q)) {
                return NAN;
            }
            int sign = (p ^ q) & SIGN;
            if (isInfinite(p) || isInfinite(q)) {
                return isZero(p) || isZero(q) ? NAN : sign | INFINITE;
            }
            return nearest(sign, Math.abs(signed(p) * signed(q)), scale(p) + scale(q));
        }

        static int opposite(int p) {
            return p ^ SIGN;
        }

        static boolean isLess(int p, int q) {
            return !isNan(p) && !isNan(q) && rank(p) < rank(q);
        }

        private static boolean isNan(int p) {
            return (p & MAGNITUDE) > INFINITE;
        }

        private static boolean isInfinite(int p) {
            return (p & MAGNITUDE) == INFINITE;
        }

        private static boolean isZero(int p) {
            return (p & MAGNITUDE) == 0;
        }

        /** Ints in the order of the floats; both zeros are alike. */
        private static int rank(int p) {
            return p < 0 ? -(p & MAGNITUDE) : p;
        }

        private static int scale(int p) {
            int exponent = (p & MAGNITUDE) >> FRACTION_BITS;
            return Math.max(exponent, 1) - 1 + LEAST_SCALE;
        }

        /** A finite float is this many times 2 to the power scale. */
        private static long signed(int p) {
            long fraction = p & FRACTION;
            if ((p & INFINITE) != 0) {
                fraction += HIDDEN_BIT;
            }
            return p < 0 ? -fraction : fraction;
        }

        /** The float nearest to magnitude times 2 to the power scale, of two the even one. */
        private static int nearest(int sign, long magnitude, int scale) {
            if (magnitude == 0) {
                return sign;
            }
            int length = 64 - Long.numberOfLeadingZeros(magnitude);
            int surplus = Math.max(length - FRACTION_BITS - 1, LEAST_SCALE - scale);
            int above = scale + surplus - LEAST_SCALE;
            if (above >= INFINITE_FROM) {
                return sign | INFINITE;
            }
            // A shift by 63 or more would not leave 0, but all of these are far below the least half.
            if (surplus > 62) {
                return sign;
            }
            long kept = magnitude << Math.max(-surplus, 0);
            if (surplus > 0) {
                kept = magnitude >> surplus;
                long rest = magnitude - (kept << surplus);
                long half = 1L << (surplus - 1);
                if (rest > half || (rest == half && (kept & 1) == 1)) {
                    kept++;
                }
            }
            // Added, not joined: a carry out of the fraction has to raise the exponent.
            return sign | ((above << FRACTION_BITS) + (int) kept);
        }
    }

    /** What the CODE at one POINT would do to the REGISTERS as they are; doing it comes later, or not. */
    private static final class Effect {
        int kindY;
        int kindZ;
        int way;
        boolean jumps;
        int kind;
        int bits;

        void foresee(Program program, int point, Registers now) {
            int y = program.y(point);
            int z = program.z(point);
            int act = program.kind[point];
            kindY = now.kind[y];
            kindZ = now.kind[z];
            way = 0;
            jumps = false;
            if (act == SET) {
                become(WHOLE, program.b[point]);
            } else if (act == COPY) {
                become(kindZ, now.bits[z]);
            } else if (act == ADD || act == SUB || act == MUL) {
                combine(act, now.bits[y], now.bits[z]);
                way = kind;
            } else if (act == HALVE) {
                halve(now.bits[z]);
                way = kind;
            } else if (act == LESS) {
                jumps = isLess(now.bits[y], now.bits[z]);
                way = jumps ? 1 : 0;
            } else if (act == GO) {
                jumps = true;
            } else if (act == ASK) {
                jumps = kindZ == WHOLE;
                way = jumps ? 1 : 0;
            }
        }

        private void become(int newKind, int newBits) {
            kind = newKind;
            bits = newBits;
        }

        private void combine(int act, int bitsY, int bitsZ) {
            if (kindY == WHOLE && kindZ == WHOLE) {
                long y = bitsY;
                long z = bitsZ;
                long exact = act == ADD ? y + z : act == SUB ? y - z : y * z;
                boolean fits = exact == (int) exact;
                become(fits ? WHOLE : FLOAT, fits ? (int) exact : Floats.ofWhole(exact));
                return;
            }
            int y = Floats.ofRegister(kindY, bitsY);
            int z = Floats.ofRegister(kindZ, bitsZ);
            become(FLOAT, act == MUL ? Floats.product(y, z)
                    : Floats.sum(y, act == SUB ? Floats.opposite(z) : z));
        }

        private void halve(int bitsZ) {
            if (kindZ == WHOLE && (bitsZ & 1) == 0) {
                become(WHOLE, bitsZ / 2);
            } else {
                become(FLOAT, Floats.product(Floats.ofRegister(kindZ, bitsZ), Floats.HALF));
            }
        }

        private boolean isLess(int bitsY, int bitsZ) {
            if (kindY == WHOLE && kindZ == WHOLE) {
                return bitsY < bitsZ;
            }
            return Floats.isLess(Floats.ofRegister(kindY, bitsY), Floats.ofRegister(kindZ, bitsZ));
        }
    }

    /** What one RECORDING met, STEP by STEP, and how it fared since. */
    private static final class Trace {
        final int number;
        final int[] point = new int[MOST_ENTRIES];
        final int[] kindY = new int[MOST_ENTRIES];
        final int[] kindZ = new int[MOST_ENTRIES];
        final int[] way = new int[MOST_ENTRIES];
        final int[] hits = new int[MOST_ENTRIES];
        final int[] branch = new int[MOST_ENTRIES];
        int head;
        int stem;
        int stemEntry;
        int size;
        int begun;

        Trace(int number) {
            this.number = number;
        }

        void restart(int newHead, int newStem, int newStemEntry) {
            head = newHead;
            stem = newStem;
            stemEntry = newStemEntry;
            size = 0;
            begun = 0;
        }

        void append(int newPoint, Effect effect) {
            if (size >= MOST_ENTRIES) {
                return;
            }
            point[size] = newPoint;
            kindY[size] = effect.kindY;
            kindZ[size] = effect.kindZ;
            way[size] = effect.way;
            hits[size] = 0;
            branch[size] = NONE;
            size++;
        }

        boolean fails(int entry, Program program, Effect effect) {
            int at = point[entry];
            return (program.readsY(at) && kindY[entry] != effect.kindY)
                    || (program.readsZ(at) && kindZ[entry] != effect.kindZ)
                    || way[entry] != effect.way;
        }
    }

    /** The TRACES of a RUN, the RECORDING that may become one more, and how hot each POINT is. */
    private static final class Forest {
        static final int BARRED_FROM = 2;

        final Trace[] traces = new Trace[MOST_TRACES];
        final int[] heat = new int[POINTS];
        final int[] drops = new int[POINTS];
        final Trace[] root = new Trace[POINTS];
        int size;
        int dropped;
        Trace recording;

        Forest() {
            for (int i = 0; i < MOST_TRACES; i++) {
                traces[i] = new Trace(i);
            }
        }

        void clear() {
            Arrays.fill(heat, 0);
            Arrays.fill(drops, 0);
            for (int point = 0; point < POINTS; point++) {
                root[point] = null;
            }
            size = 0;
            dropped = 0;
            recording = null;
        }

        boolean has(int trace) {
            return trace >= 0 && trace < size;
        }

        boolean hasEntry(int trace, int entry) {
            return has(trace) && entry >= 0 && entry < traces[trace].size;
        }

        boolean mayRecord(int head) {
            return size < MOST_TRACES && drops[head] < BARRED_FROM;
        }

        void startRecording(int head, int stem, int stemEntry) {
            recording = traces[size];
            recording.restart(head, stem, stemEntry);
        }

        void keep() {
            if (recording == null) {
                return;
            }
            if (recording.stem == NONE) {
                root[recording.head] = recording;
            } else {
                traces[recording.stem].branch[recording.stemEntry] = recording.number;
            }
            size++;
            recording = null;
        }

        void drop() {
            if (recording == null) {
                return;
            }
            heat[recording.head] = 0;
            drops[recording.head]++;
            dropped++;
            recording = null;
        }

        int heatFact(int point, int what) {
            if (point < 0 || point >= POINTS) {
                return BAD;
            }
            switch (what) {
                case 0: return heat[point];
                case 1: return drops[point] >= BARRED_FROM ? 1 : 0;
                case 2: return root[point] == null ? NONE : root[point].number;
                default: return BAD;
            }
        }

        int entriesInAll() {
            int many = 0;
            for (int i = 0; i < size; i++) {
                many += traces[i].size;
            }
            return many;
        }
    }

    /** A RUN of the program: STEPS that are interpreted, recorded or compiled. */
    private static final class Machine {
        final Program program;
        final Registers registers = new Registers();
        final Forest forest = new Forest();
        final Effect effect = new Effect();
        int hot;
        int point;
        int how;
        int steps;
        int compiled;
        int exits;
        /** The TRACE by which STEPS are compiled, null while they are interpreted, and its next ENTRY. */
        Trace current;
        int at;

        Machine(Program program) {
            this.program = program;
        }

        void go(Registers loaded, int limit, int hotness) {
            forest.clear();
            registers.become(loaded);
            hot = hotness;
            steps = 0;
            compiled = 0;
            exits = 0;
            current = null;
            how = BY_LIMIT;
            moveTo(0);
            for (int i = 0; i < limit && how == BY_LIMIT; i++) {
                effect.foresee(program, point, registers);
                getReady();
                doStep();
            }
            forest.drop();
        }

        private void moveTo(int next) {
            point = next;
            if (!program.holds(next)) {
                how = NO_CODE;
            }
        }

        /** All that happens ahead of a STEP: behind it, current and recording say which kind of STEP it is. */
        private void getReady() {
            judgeRecording();
            if (forest.recording == null && current == null) {
                begin(forest.root[point]);
            }
            // No TRACE is left twice at one POINT, so MOST_TRACES exits are the most.
            for (int i = 0; i < MOST_TRACES && current != null && current.fails(at, program, effect); i++) {
                leave();
            }
        }

        private void judgeRecording() {
            Trace open = forest.recording;
            if (open == null) {
                return;
            }
            if (point == open.head) {
                if (open.size > 0) {
                    forest.keep();
                }
            } else if (open.size >= MOST_ENTRIES || forest.root[point] != null) {
                forest.drop();
            }
        }

        private void begin(Trace trace) {
            current = trace;
            at = 0;
            if (trace != null) {
                trace.begun++;
            }
        }

        private void leave() {
            Trace left = current;
            int entry = at;
            exits++;
            left.hits[entry]++;
            current = null;
            if (forest.has(left.branch[entry])) {
                begin(forest.traces[left.branch[entry]]);
            } else if (left.hits[entry] == hot && forest.mayRecord(left.head)) {
                forest.startRecording(left.head, left.number, entry);
                judgeRecording();
                if (forest.recording == null) {
                    begin(forest.root[point]);
                }
            }
        }

        private void doStep() {
            int from = point;
            steps++;
            if (current != null) {
                compiled++;
            }
            if (forest.recording != null) {
                forest.recording.append(from, effect);
            }
            if (program.writesX(from)) {
                registers.put(program.x(from), effect.kind, effect.bits);
            }
            if (program.kind[from] == STOP) {
                how = BY_STOP;
                return;
            }
            moveTo(effect.jumps ? program.a[from] : from + 1);
            goOn(effect.jumps && point <= from);
        }

        private void goOn(boolean jumpedBack) {
            Trace open = forest.recording;
            if (current != null) {
                at++;
                if (at >= current.size) {
                    begin(forest.root[current.head]);
                }
            } else if (open != null) {
                if (jumpedBack && point != open.head) {
                    forest.drop();
                }
            } else if (jumpedBack) {
                warm();
            }
        }

        private void warm() {
            forest.heat[point]++;
            if (forest.heat[point] == hot && forest.root[point] == null && forest.mayRecord(point)) {
                forest.startRecording(point, NONE, NONE);
            }
        }
    }

    /** What can be told of a TRACE without running it. */
    private static final class Survey {

        static int writtenAhead(Program program, Trace trace, int entry) {
            int written = 0;
            for (int i = 0; i < entry && i < trace.size; i++) {
                written |= writtenAt(program, trace.point[i]);
            }
            return written;
        }

        static int checksOf(Program program, Trace trace, int what) {
            int everWritten = writtenAhead(program, trace, trace.size);
            int known = 0;
            int all = 0;
            int unknown = 0;
            int first = 0;
            for (int i = 0; i < trace.size; i++) {
                int point = trace.point[i];
                int read = readAt(program, point);
                if (program.kind[point] != ASK) {
                    all += Integer.bitCount(read);
                    unknown += Integer.bitCount(read & ~known);
                    first += Integer.bitCount(read & ~known & ~everWritten);
                }
                // A COPY has checked what it copies, so whatever is written is KNOWN.
                known |= read | writtenAt(program, point);
            }
            switch (what) {
                case 0: return all;
                case 1: return unknown;
                case 2: return first;
                default: return BAD;
            }
        }

        private static int readAt(Program program, int point) {
            int y = program.readsY(point) ? 1 << program.y(point) : 0;
            int z = program.readsZ(point) ? 1 << program.z(point) : 0;
            return y | z;
        }

        private static int writtenAt(Program program, int point) {
            return program.writesX(point) ? 1 << program.x(point) : 0;
        }
    }

    /** A row of items, or none: while it is LOST. */
    private static final class Sheet {
        static final int BYTES = 0, SHORTS = 1, INTS = 2;

        final int[] items = new int[MOST_ITEMS];
        int form = NONE;
        int size;

        static boolean isForm(int form) {
            return form >= BYTES && form <= INTS;
        }

        boolean isLost() {
            return form == NONE;
        }

        void renew(int newForm, int newSize) {
            form = newForm;
            size = newSize;
            Arrays.fill(items, 0);
        }

        /** The FINDING that an item, treated as of a FORM, would make; 0 if none. */
        int faultAt(int asForm, int i) {
            if (isLost()) {
                return IS_NULL;
            }
            if (form != asForm) {
                return BAD_CAST;
            }
            return i < 0 || i >= size ? NO_INDEX : 0;
        }

        boolean hasSpan(int from, int many) {
            return from >= 0 && many >= 0 && from <= size && many <= size - from;
        }

        void lower(int i, int v) {
            items[i] = form == BYTES ? (byte) v : form == SHORTS ? (short) v : v;
        }
    }
}
