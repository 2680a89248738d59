/** Which refusal it is where more than one fits, and that a refused call changes nothing. */
final class RefusalEdges extends Edges {
    private static final int CALLS = 48, FIRST_GET = 40;

    RefusalEdges(Due due) {
        super(due);
    }

    @Override
    void ask() {
        firstThatFits();
        badAheadOfFindings();
        nullAheadOfOthers();
        changeNothing();
    }

    private void firstThatFits() {
        sentence("Refusals, the first that fits, in the order told at each act");
        TraceTrees x = roundOf(24);
        put(x, 1, SHORTS, 1, 2);
        put(x, 2, INTS, 1, 2);
        is("add: BAD, FULL", x.add(10, 0, 0, 0), BAD);
        is("add: FULL", x.add(GO, 0, 0, 0), FULL);
        is("sheet: BAD (above 60), no SIZE", x.sheet(0, 0, 61), BAD);
        is("sheet: BAD (SHEET), SIZE", x.sheet(4, 0, -1), BAD);
        is("sheet: BAD (FORM), SIZE", x.sheet(0, 3, -1), BAD);
        is("sheet: SIZE", x.sheet(0, 2, -1), SIZE);
        is("lay: CAST, INDEX", x.lay(1, INTS, 2, 0), CAST);
        is("lay: INDEX", x.lay(1, SHORTS, 2, 0), INDEX);
        x.get(1, INTS, -1);
        is("get: CAST, INDEX", x.count(8), 3);
        x.get(1, SHORTS, -1);
        is("get: INDEX", x.count(8), 2);
        is("copy: STORE, INDEX", x.copy(1, -1, 2, 9, -1), STORE);
        is("copy: INDEX", x.copy(1, -1, 1, 9, -1), INDEX);
    }

    private void badAheadOfFindings() {
        sentence("BAD -2 (a number not as told, no such thing), NULL");
        TraceTrees x = with(GO, 0, 0, 0);
        is("lay: BAD, NULL", x.lay(0, 3, 0, 0), BAD);
        is("lay: BAD, NULL", x.lay(0, -1, 0, 0), BAD);
        is("get: BAD, NULL", x.get(0, 3, 0), LEAST);
        is("copy: BAD (t), NULL (s)", x.copy(0, 0, 4, 0, 0), BAD);
        is("copy: BAD (s), NULL (t)", x.copy(-1, 0, 0, 0, 0), BAD);
        is("write: BAD (TRACE), NULL", x.write(1, 0), BAD);
        is("write: BAD (SHEET)", x.write(0, 4), BAD);
        is("none of these is a FINDING", x.count(8), 0);
        is("write: NULL", x.write(0, 0), NULL);
    }

    private void nullAheadOfOthers() {
        sentence("NULL, NOT -3 (as told), FULL -4, other FINDINGS.");
        TraceTrees x = roundOf(24);
        x.sheet(1, SHORTS, 2);
        is("lay: NULL, CAST, INDEX", x.lay(0, INTS, -1, 0), NULL);
        x.sheet(2, SHORTS, -1);
        x.get(0, INTS, -1);
        is("get: NULL, CAST, INDEX", x.count(8), 1);
        is("copy: NULL (s), STORE, INDEX", x.copy(0, -1, 1, -1, -1), NULL);
        is("copy: NULL (t), STORE, INDEX", x.copy(1, -1, 0, -1, -1), NULL);
        is("read: NULL, though there is no room", x.read(0), NULL);
        is("back: NOT", new TraceTrees().back(), NOT);
    }

    /** An object with all that a call could change: CODE, TRACES, a BRANCH, three SHEETS, a FINDING. */
    private static TraceTrees rich() {
        TraceTrees x = limited(evenAndOdd(3), 150, 4);
        for (int i = 3; i < 24; i++) {
            x.add(SET, i, i, 7);
        }
        x.load(6, FLOAT, 17);
        put(x, 0, BYTES, 1, 2, 3);
        put(x, 1, SHORTS, 4, 5);
        put(x, 2, INTS, 6, 7, 8, 9);
        x.copy(0, 0, 1, 0, 1);
        return x;
    }

    private void changeNothing() {
        sentence("They change nothing (FINDINGS but count() 8).");
        long digest = rich().digest();
        for (int call = 0; call < CALLS; call++) {
            TraceTrees x = rich();
            String name = "call " + call;
            int answer = refused(x, call);
            is(name + " is refused", answer <= BAD ? 1 : 0, 1);
            is(name + ": count(8)", x.count(8), findingBehind(call, answer));
            is(name + ": digest", x.digest(), digest);
            items(name, x, 0, BYTES, 1, 2, 3);
            items(name, x, 1, SHORTS, 4, 5);
            items(name, x, 2, INTS, 6, 7, 8, 9);
            is(name + ": items", x.lose(0) * 100 + x.lose(1) * 10 + x.lose(2), 324);
            is(name + ": a LOST one", x.lose(3), NULL);
        }
    }

    /** The number of the FINDING that the call has made, or the one of rich(): STORE. */
    private static int findingBehind(int call, int answer) {
        int[] ofGet = {1, 3, 2, 2};
        if (call >= FIRST_GET && call < FIRST_GET + ofGet.length) {
            return ofGet[call - FIRST_GET];
        }
        return answer <= NULL && answer >= SIZE ? -10 - answer : 4;
    }

    private static int refused(TraceTrees x, int call) {
        switch (call) {
            case 0: return x.add(SET, 0, 0, 0);
            case 1: return x.add(-1, 0, 0, 0);
            case 2: return x.alter(24, SET, 0, 0, 0);
            case 3: return x.alter(0, SET, 24, 0, 0);
            case 4: return x.alter(0, SET, 0, 30001, 0);
            case 5: return x.alter(0, SET, 0, 0, 8);
            case 6: return x.load(8, WHOLE, 1);
            case 7: return x.load(0, 2, 1);
            case 8: return x.set(LIMIT, 601);
            case 9: return x.set(HOT, 1);
            case 10: return x.set(2, 5);
            case 11: return x.read(4);
            case 12: return x.read(3);
            case 13: return x.value(8, 0);
            case 14: return x.plain(0, 2);
            case 15: return x.ends(6);
            case 16: return x.heat(24, 0);
            case 17: return x.trace(5, 0);
            case 18: return x.entry(0, 5, 0);
            case 19: return x.checks(0, 3);
            case 20: return x.snapshot(0, 5, 0);
            case 21: return x.writes(5);
            case 22: return x.better(2);
            case 23: return x.sheet(0, 3, 5);
            case 24: return x.sheet(0, BYTES, 61);
            case 25: return x.sheet(0, BYTES, -1);
            case 26: return x.lose(4);
            case 27: return x.lose(3);
            case 28: return x.lay(0, 3, 0, 9);
            case 29: return x.lay(3, BYTES, 0, 9);
            case 30: return x.lay(0, INTS, 0, 9);
            case 31: return x.lay(0, BYTES, 3, 9);
            case 32: return x.copy(0, 0, 4, 0, 1);
            case 33: return x.copy(0, 0, 3, 0, 1);
            case 34: return x.copy(0, 0, 1, 0, 1);
            case 35: return x.copy(0, 0, 0, 1, 3);
            case 36: return x.copy(0, 0, 0, 1, -1);
            case 37: return x.write(5, 0);
            case 38: return x.write(0, 3);
            case 39: return x.count(9);
            case 40: return x.get(3, BYTES, 0);
            case 41: return x.get(0, INTS, 0);
            case 42: return x.get(0, BYTES, 3);
            case 43: return x.get(0, BYTES, -1);
            case 44: return x.get(4, BYTES, 0);
            case 45: return x.get(0, 3, 0);
            case 46: return x.code(24, 0);
            default: return x.code(0, 4);
        }
    }
}
