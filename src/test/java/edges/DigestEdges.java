/** Promise 26, with nothing there, with all that there can be, and at the last call that is promised. */
final class DigestEdges extends Edges {
    private long h;

    DigestEdges(Due due) {
        super(due);
    }

    @Override
    void ask() {
        eachOf();
        lastCall();
    }

    private void eachOf() {
        sentence("h is 17; h becomes 31 h and each of: count() 0 to 7; ends() 0 to 5; of REGISTERS value() 0, 1, plain() 0, 1; "
                + "of POINTS 0 to 23 code() 0 to 3, heat() 0 to 2; of 0 to 7 trace(it, 0 to 4), checks(it, 0 to 2), writes(it), "
                + "of it and 0 to 15 entry(it, that, 0 to 5), snapshot(it, that, 0 and 1); better() 0, 1; as longs that wrap.");
        same("nothing", new TraceTrees(), new TraceTrees());
        same("eight TRACES", loops(9), loops(9));
        same("a BRANCH as the eighth", loopsAndAgain(7), loopsAndAgain(7));
        same("sixteen ENTRIES", limited(roundOf(16), 600, 9), limited(roundOf(16), 600, 9));
        same("twenty-four codes", roundOf(24), roundOf(24));
        same("branches of branches", limited(evenAndOdd(MOST - 7), 600, 2), limited(evenAndOdd(MOST - 7), 600, 2));
        same("one that is BARRED", loopInALoop(), loopInALoop());
        TraceTrees x = loopInALoop();
        long before = x.digest();
        is("asked again", x.digest(), before);
        x.lose(3);
        x.sheet(0, BYTES, 4);
        is("neither FINDINGS nor SHEETS are in it", x.digest(), before);
        x.set(HOT, 3);
        is("HOT is", x.digest() != before ? 1 : 0, 1);
        x.set(HOT, 2);
        is("as it was", x.digest(), before);
    }

    /** The digest is asked of one object, its parts of another like it: neither may lean on what was asked before. */
    private void same(String name, TraceTrees x, TraceTrees likeIt) {
        is(name, x.digest(), slow(likeIt));
    }

    private void mix(long v) {
        h = 31 * h + v;
    }

    private long slow(TraceTrees x) {
        h = 17;
        for (int i = 0; i <= 7; i++) {
            mix(x.count(i));
        }
        for (int i = 0; i <= 5; i++) {
            mix(x.ends(i));
        }
        for (int r = 0; r < 8; r++) {
            mix(x.value(r, 0));
            mix(x.value(r, 1));
            mix(x.plain(r, 0));
            mix(x.plain(r, 1));
        }
        for (int point = 0; point <= 23; point++) {
            for (int i = 0; i <= 3; i++) {
                mix(x.code(point, i));
            }
            for (int i = 0; i <= 2; i++) {
                mix(x.heat(point, i));
            }
        }
        for (int t = 0; t <= 7; t++) {
            slowTrace(x, t);
        }
        mix(x.better(0));
        mix(x.better(1));
        return h;
    }

    private void slowTrace(TraceTrees x, int t) {
        for (int i = 0; i <= 4; i++) {
            mix(x.trace(t, i));
        }
        for (int i = 0; i <= 2; i++) {
            mix(x.checks(t, i));
        }
        mix(x.writes(t));
        for (int e = 0; e <= 15; e++) {
            for (int i = 0; i <= 5; i++) {
                mix(x.entry(t, e, i));
            }
            mix(x.snapshot(t, e, 0));
            mix(x.snapshot(t, e, 1));
        }
    }

    /** The last of them answers like one of a new object; one behind it has to come back, whatever it answers. */
    private void lastCall() {
        sentence("An object is used for at most 512 calls after it has been made; what later calls answer is free.");
        TraceTrees x = loopInALoop();
        int calls = 5 + 3 + 1;
        for (; calls < 511; calls++) {
            x.load(calls % 8, calls % 2, calls);
        }
        TraceTrees y = loopInALoop();
        for (int last = 511 - 8; last < 511; last++) {
            y.load(last % 8, last % 2, last);
        }
        is("call 512", x.digest(), y.digest());
        x.add(SET, 0, 0, 0);
        x.digest();
    }
}
