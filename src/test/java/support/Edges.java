/** What the tests of single sentences share: names for numbers, programs, and many questions at once. */
abstract class Edges {
    static final int SET = 0, COPY = 1, ADD = 2, SUB = 3, MUL = 4, HALVE = 5, LESS = 6, GO = 7, ASK = 8, STOP = 9;
    static final int WHOLE = 0, FLOAT = 1;
    static final int BYTES = 0, SHORTS = 1, INTS = 2;
    static final int NONE = -1, BAD = -2, NOT = -3, FULL = -4;
    static final int NULL = -11, INDEX = -12, CAST = -13, STORE = -14, SIZE = -15;
    static final int MOST = Integer.MAX_VALUE, LEAST = Integer.MIN_VALUE;
    static final int LIMIT = 0, HOT = 1;

    private final Due due;

    Edges(Due due) {
        this.due = due;
    }

    abstract void ask();

    void sentence(String quote) {
        due.sentence(quote);
    }

    void is(String call, long got, long want) {
        due.is(call, got, want);
    }

    static int bits(float f) {
        return Float.floatToIntBits(f);
    }

    // ---- many questions at once

    /** How it ends, the POINT, STEPS, COMPILED ones, EXITS, DROPPED: as many as are given. */
    void ends(String name, TraceTrees x, int... want) {
        for (int i = 0; i < want.length; i++) {
            is(name + ": ends(" + i + ")", x.ends(i), want[i]);
        }
    }

    /** HEAT, whether it is BARRED, the TRACE with that HEAD: as many as are given. */
    void heat(String name, TraceTrees x, int point, int... want) {
        for (int i = 0; i < want.length; i++) {
            is(name + ": heat(" + point + ", " + i + ")", x.heat(point, i), want[i]);
        }
    }

    /** HEAD, whose BRANCH, of which ENTRY, ENTRIES, how often begun: as many as are given. */
    void trace(String name, TraceTrees x, int trace, int... want) {
        for (int i = 0; i < want.length; i++) {
            is(name + ": trace(" + trace + ", " + i + ")", x.trace(trace, i), want[i]);
        }
    }

    /** POINT, kind of Y, of Z, WAY, HITS, BRANCH: as many as are given. */
    void entry(String name, TraceTrees x, int trace, int entry, int... want) {
        for (int i = 0; i < want.length; i++) {
            is(name + ": entry(" + trace + ", " + entry + ", " + i + ")", x.entry(trace, entry, i), want[i]);
        }
    }

    void checks(String name, TraceTrees x, int trace, int... want) {
        for (int i = 0; i < want.length; i++) {
            is(name + ": checks(" + trace + ", " + i + ")", x.checks(trace, i), want[i]);
        }
    }

    /** What a REGISTER is, behind the RUN and by interpreting alone. */
    void register(String name, TraceTrees x, int register, int kind, int bits) {
        is(name + ": value(" + register + ", 0)", x.value(register, 0), kind);
        is(name + ": value(" + register + ", 1)", x.value(register, 1), bits);
        is(name + ": plain(" + register + ", 0)", x.plain(register, 0), kind);
        is(name + ": plain(" + register + ", 1)", x.plain(register, 1), bits);
    }

    void items(String name, TraceTrees x, int s, int form, int... want) {
        for (int i = 0; i < want.length; i++) {
            is(name + ": get(" + s + ", " + form + ", " + i + ")", x.get(s, form, i), want[i]);
        }
    }

    // ---- programs

    static TraceTrees with(int... codes) {
        return Due.with(codes);
    }

    static void put(TraceTrees x, int s, int form, int... items) {
        x.sheet(s, form, items.length);
        for (int i = 0; i < items.length; i++) {
            x.lay(s, form, i, items[i]);
        }
    }

    static TraceTrees limited(TraceTrees x, int limit, int hot) {
        x.set(LIMIT, limit);
        x.set(HOT, hot);
        return x;
    }

    /** A loop of so many STEPS a round, without an end. */
    static TraceTrees roundOf(int many) {
        TraceTrees x = new TraceTrees();
        for (int i = 0; i < many - 1; i++) {
            x.add(SET, 5, i, 0);
        }
        x.add(GO, 0, 0, 0);
        return x;
    }

    /** The number goes up by 1 each round; half of it is a WHOLE in every second one. Three STEPS a round. */
    static TraceTrees evenAndOdd(int first) {
        TraceTrees x = with(HALVE, 3, 0, 0, ADD, 0, 0, 1, GO, 0, 0, 0);
        x.load(0, WHOLE, first);
        x.load(1, WHOLE, 1);
        return x;
    }

    /** Likewise, but an odd round has seventeen STEPS more: 4 STEPS, 21 STEPS. */
    static TraceTrees evenAndLongOdd(int first) {
        TraceTrees x = with(HALVE, 3, 0, 0, ASK, 19, 0, 3);
        for (int i = 0; i < 17; i++) {
            x.add(SET, 5, i, 0);
        }
        x.add(ADD, 0, 0, 1);
        x.add(GO, 0, 0, 0);
        x.load(0, WHOLE, first);
        x.load(1, WHOLE, 1);
        return x;
    }

    /**
     * So many loops, one behind another, each of 2 codes and 5 rounds: up to 5, down to 0, up ..
     * With HOT 2, each is 10 STEPS: rounds 1 and 2 make it hot, 3 is recorded, the rest is compiled
     * but for the last STEP, where it leaves.
     */
    static TraceTrees loops(int many) {
        TraceTrees x = new TraceTrees();
        for (int i = 0; i < many; i++) {
            boolean up = i % 2 == 0;
            x.add(up ? ADD : SUB, 0, 0, 1);
            x.add(LESS, 2 * i, up ? 0 : 3, up ? 2 : 0);
        }
        x.load(1, WHOLE, 1);
        x.load(2, WHOLE, 5);
        x.set(HOT, 2);
        return x;
    }

    /** These loops, the last of them entered again and again. */
    static TraceTrees loopsAndAgain(int many) {
        TraceTrees x = loops(many);
        x.add(SET, 0, many % 2 == 1 ? 0 : 5, 0);
        x.add(GO, 2 * many - 2, 0, 0);
        return x;
    }

    /** A loop of 5 rounds (head 1) in a loop of 10 rounds (head 0): 13 STEPS each, HOT 2. */
    static TraceTrees loopInALoop() {
        TraceTrees x = with(SET, 2, 0, 0, ADD, 2, 2, 1, LESS, 1, 2, 3, ADD, 0, 0, 1, LESS, 0, 0, 4);
        x.load(1, WHOLE, 1);
        x.load(3, WHOLE, 5);
        x.load(4, WHOLE, 10);
        x.set(HOT, 2);
        return x;
    }

    /** One code, and a jump back to it: a TRACE of 2 ENTRIES, if it is not the code that jumps away. */
    static TraceTrees onlyThis(int kind, int a, int b, int c) {
        TraceTrees x = with(kind, a, b, c, GO, 0, 0, 0);
        x.set(HOT, 2);
        return x;
    }
}
