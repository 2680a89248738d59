/** CHECKS, SNAPSHOTS, NEWS, BETTER, and promises 13 to 18. */
final class TraceEdges extends Edges {

    TraceEdges(Due due) {
        super(due);
    }

    @Override
    void ask() {
        whatIsChecked();
        oneRegisterTwice();
        checkedAhead();
        writtenAhead();
        writtenBehind();
        askedAhead();
        first();
        snapshots();
        news();
        better();
        betterIsTheLeast();
        betterUpToNine();
        trace();
        entry();
        checks();
        snapshot();
        writes();
        betterCall();
    }

    // ---- terms

    private void whatIsChecked() {
        sentence("CHECKS of a TRACE: each kind that an ENTRY reads, as told, but those of ASK");
        int[] want = {0, 1, 2, 2, 2, 1, 2, 0, 0};
        for (int kind = SET; kind <= ASK; kind++) {
            TraceTrees x = onlyThis(kind, kind < LESS ? 4 : 1, 2, 3);
            checks("KIND " + kind, x, 0, want[kind], want[kind], want[kind]);
        }
    }

    private void oneRegisterTwice() {
        sentence("(Y and Z being one REGISTER: one)");
        for (int kind : new int[] {ADD, SUB, MUL, LESS}) {
            checks("KIND " + kind, onlyThis(kind, kind < LESS ? 4 : 1, -5, 3), 0, 1, 1, 1);
        }
    }

    /** A loop of the codes given and a jump back. */
    private static TraceTrees loop(int... codes) {
        TraceTrees x = with(codes);
        x.add(GO, 0, 0, 0);
        x.set(HOT, 2);
        return x;
    }

    private void checkedAhead() {
        sentence("A CHECK is KNOWN, if that REGISTER's kind is: it was checked ahead in this TRACE");
        checks("both again", loop(LESS, 1, 2, 3, LESS, 2, 2, 3), 0, 4, 2, 2);
        checks("the other way round", loop(LESS, 1, 2, 3, LESS, 2, 3, 2), 0, 4, 2, 2);
        checks("one of them again", loop(HALVE, 4, 0, 3, LESS, 2, 2, 3), 0, 3, 2, 2);
        checks("checked as it is written", loop(ADD, 2, 2, 2, HALVE, 4, 0, 2), 0, 2, 1, 0);
    }

    private void writtenAhead() {
        sentence("or it was written, and not written again since (SET, COPY of a REGISTER whose kind is KNOWN then, "
                + "ADD, SUB, MUL, HALVE: KNOWN)");
        checks("SET", loop(SET, 4, 1, 0, HALVE, 5, 0, 4), 0, 1, 0, 0);
        checks("COPY, which checks", loop(COPY, 4, 0, 2, HALVE, 5, 0, 4), 0, 2, 1, 1);
        checks("COPY of a KNOWN one", loop(SET, 2, 1, 0, COPY, 4, 0, 2, HALVE, 5, 0, 4), 0, 2, 0, 0);
        for (int kind = ADD; kind <= MUL; kind++) {
            checks("KIND " + kind, loop(kind, 4, 2, 3, HALVE, 5, 0, 4), 0, 3, 2, 2);
        }
        checks("HALVE", loop(HALVE, 4, 0, 2, HALVE, 5, 0, 4), 0, 2, 1, 1);
        checks("written again, and KNOWN again", loop(SET, 4, 1, 0, HALVE, 4, 0, 4, HALVE, 5, 0, 4), 0, 2, 0, 0);
        checks("by a higher number", loop(SET, 20, 1, 0, HALVE, 5, 0, 4), 0, 1, 0, 0);
    }

    /** What the round ahead has written is not KNOWN in this one. */
    private void writtenBehind() {
        sentence("it was checked ahead in this TRACE, or it was written");
        checks("written behind it", loop(HALVE, 5, 0, 4, SET, 4, 1, 0), 0, 1, 1, 0);
        checks("checked behind it", loop(HALVE, 5, 0, 4, HALVE, 6, 0, 4), 0, 2, 1, 1);
        TraceTrees branch = limited(evenAndOdd(0), 60, 2);
        checks("the TRACE", branch, 0, 3, 2, 1);
        checks("its BRANCH, begun at its first ENTRY", branch, 1, 3, 2, 1);
        TraceTrees late = loopsAndAgain(7);
        late.set(LIMIT, 85);
        checks("the TRACE", late, 6, 4, 3, 2);
        checks("its BRANCH: what was KNOWN where it left is not KNOWN here", late, 7, 2, 2, 1);
    }

    private void askedAhead() {
        sentence("an ASK makes it KNOWN as well");
        checks("of a WHOLE", loop(ASK, 1, 0, 2, HALVE, 5, 0, 2), 0, 1, 0, 0);
        TraceTrees x = loop(ASK, 1, 0, 2, HALVE, 5, 0, 2);
        x.load(2, FLOAT, 1);
        checks("of a FLOAT", x, 0, 1, 0, 0);
        checks("not its Y", loop(ASK, 1, 2, 3, HALVE, 5, 0, 2), 0, 1, 1, 1);
        checks("behind the CHECK", loop(HALVE, 5, 0, 2, ASK, 2, 0, 2), 0, 1, 1, 1);
    }

    private void first() {
        sentence("A CHECK that is not KNOWN is FIRST, if its REGISTER is written by no ENTRY of this TRACE: "
                + "it may be done once, ahead.");
        checks("by none", loop(HALVE, 5, 0, 2), 0, 1, 1, 1);
        checks("by one behind it", loop(HALVE, 5, 0, 2, SET, 2, 1, 0), 0, 1, 1, 0);
        checks("by itself", loop(HALVE, 2, 0, 2), 0, 1, 1, 0);
        checks("KNOWN ones are not FIRST", loop(HALVE, 5, 0, 2, HALVE, 6, 0, 2), 0, 2, 1, 1);
        checks("none is read", loop(SET, 2, 1, 0), 0, 0, 0, 0);
        TraceTrees x = limited(with(ASK, 3, 0, 3, SET, 2, 1, 0, SET, 3, 0, 0, HALVE, 5, 0, 2, HALVE, 3, 0, 0, ADD, 0, 0, 1,
                GO, 0, 0, 0), 60, 2);
        x.load(1, WHOLE, 1);
        is("the TRACE writes REGISTER 2", x.writes(0) & 4, 4);
        checks("the TRACE", x, 0, 4, 2, 1);
        is("its BRANCH does not", x.writes(1) & 4, 0);
        checks("its BRANCH", x, 1, 4, 3, 2);
    }

    private void snapshots() {
        sentence("A SNAPSHOT of an ENTRY: REGISTERS that are written by ENTRIES ahead of it in this TRACE");
        TraceTrees x = loop(SET, 0, 0, 0, SET, 15, 0, 0, SET, 0, 0, 0, LESS, 4, 0, 1, COPY, 3, 0, 0);
        int[] want = {0, 1, 129, 129, 129, 137};
        for (int i = 0; i < want.length; i++) {
            is("ENTRY " + i, x.snapshot(0, i, 0), want[i]);
        }
        TraceTrees y = loopsAndAgain(7);
        y.set(LIMIT, 85);
        is("where it left", y.snapshot(6, 1, 0), 1);
        is("a BRANCH has none at its first", y.snapshot(7, 0, 0), 0);
        is("a BRANCH", y.snapshot(7, 2, 0), 1);
    }

    private void news() {
        sentence("NEWS of it: those of these that are not in the SNAPSHOT of the ENTRY ahead.");
        TraceTrees x = loop(SET, 0, 0, 0, SET, 15, 0, 0, SET, 0, 0, 0, LESS, 4, 0, 1, COPY, 3, 0, 0);
        int[] want = {0, 1, 128, 0, 0, 8};
        for (int i = 0; i < want.length; i++) {
            is("ENTRY " + i, x.snapshot(0, i, 1), want[i]);
        }
    }

    private void better() {
        sentence("BETTER: HOT (2 to 9), in place of what it is, by which most STEPS are COMPILED");
        TraceTrees x = with(GO, 0, 0, 0);
        for (int hot = 2; hot <= 9; hot++) {
            x.set(HOT, hot);
            is("which, HOT " + hot, x.better(0), 2);
            is("how many, HOT " + hot, x.better(1), 197);
            is("HOT stays " + hot, x.count(2), hot);
            is("the RUN stays, HOT " + hot, x.ends(3), 200 - hot - 1);
        }
    }

    private void betterIsTheLeast() {
        sentence("of like ones the least: which; how many.");
        TraceTrees x = new TraceTrees();
        is("no CODE", x.better(0), 2);
        is("none", x.better(1), 0);
        TraceTrees y = with(GO, 0, 0, 0);
        is("many", y.better(1), 197);
        y.set(LIMIT, 0);
        is("LIMIT 0", y.better(0), 2);
        is("none", y.better(1), 0);
        y.set(LIMIT, 4);
        is("2 alone", y.better(0), 2);
        is("one", y.better(1), 1);
        TraceTrees z = longAtFirst(4);
        is("with 2, once DROPPED, and with 4", z.better(0), 2);
        is("as many", z.better(1), 116);
        is("as many with 2", limited(z, 200, 2).ends(3), 116);
        is("as many with 4", limited(z, 200, 4).ends(3), 116);
    }

    /**
     * A round is 20 STEPS as long as the number is less than that in REGISTER 2, too long to be RECORDED,
     * and 4 STEPS from there on.
     */
    private static TraceTrees longAtFirst(int until) {
        TraceTrees x = with(LESS, 2, 0, 2, GO, 19, 0, 0);
        for (int i = 0; i < 17; i++) {
            x.add(SET, 5, i, 0);
        }
        x.add(ADD, 0, 0, 1);
        x.add(GO, 0, 0, 0);
        x.load(1, WHOLE, 1);
        x.load(2, WHOLE, until);
        return x;
    }

    private void betterUpToNine() {
        sentence("HOT (2 to 9), in place of what it is");
        int[][] cases = {{2, 2, 156}, {3, 3, 136}, {9, 9, 16}};
        for (int[] c : cases) {
            TraceTrees x = longAtFirst(c[0]);
            is("long until " + c[0], x.better(0), c[1]);
            is("COMPILED, long until " + c[0], x.better(1), c[2]);
        }
        is("1 would be more", with(GO, 0, 0, 0).better(1), 197);
        TraceTrees y = tenJumpsBack();
        is("10 would be more", y.better(0), 2);
        is("10 would be more", y.better(1), 14);
    }

    /**
     * An inner loop jumps back ten times, up to the overflow, and then never again. With HOT 10 it is
     * DROPPED, and so the outer loop becomes a TRACE; with less, its TRACE is in the way of the outer one.
     */
    private static TraceTrees tenJumpsBack() {
        TraceTrees x = with(SUB, 3, 3, 0, MUL, 2, 2, 1, ASK, 1, 0, 2, GO, 0, 0, 0);
        x.load(1, WHOLE, 7);
        x.load(2, WHOLE, 6);
        return x;
    }

    // ---- promises

    private void trace() {
        sentence("Of a TRACE (0 on, as they came to be) the HEAD (what = 0), whose BRANCH it is (1; NONE), of which ENTRY of "
                + "that (2; NONE), how many ENTRIES (3), how often it was begun (4). BAD.");
        TraceTrees x = limited(evenAndOdd(0), 60, 2);
        trace("the first", x, 0, 0, NONE, NONE, 3, 18);
        trace("the second", x, 1, 0, 0, 0, 3, 7);
        for (int bad : new int[] {LEAST, -1, 2, 8, MOST}) {
            trace("no such one", x, bad, BAD, BAD, BAD, BAD, BAD);
        }
        for (int bad : new int[] {LEAST, -1, 5, MOST}) {
            is("what " + bad, x.trace(0, bad), BAD);
        }
        is("none at all", new TraceTrees().trace(0, 0), BAD);
        TraceTrees y = loops(8);
        for (int i = 0; i < 8; i++) {
            trace("as they came to be", y, i, 2 * i, NONE, NONE, 2, 2);
        }
    }

    private void entry() {
        sentence("Of an ENTRY (0 on) the POINT (what = 0), the kind of Y (1), of Z (2), the WAY (3), HITS (4), "
                + "the BRANCH (5; NONE). BAD.");
        TraceTrees x = limited(evenAndOdd(0), 60, 2);
        entry("with a BRANCH", x, 0, 0, 0, WHOLE, WHOLE, 0, 9, 1);
        entry("without", x, 0, 2, 2, WHOLE, WHOLE, 0, 0, NONE);
        for (int bad : new int[] {LEAST, -1, 3, 16, MOST}) {
            entry("no such ENTRY", x, 0, bad, BAD, BAD, BAD, BAD, BAD, BAD);
        }
        for (int bad : new int[] {LEAST, -1, 2, MOST}) {
            entry("no such TRACE", x, bad, 0, BAD, BAD, BAD, BAD, BAD, BAD);
        }
        for (int bad : new int[] {LEAST, -1, 6, MOST}) {
            is("what " + bad, x.entry(0, 0, bad), BAD);
        }
    }

    private void checks() {
        sentence("CHECKS of a TRACE: how many (what = 0), that are not KNOWN (1), that are FIRST (2). BAD.");
        TraceTrees x = limited(evenAndOdd(0), 60, 2);
        checks("all, not KNOWN, FIRST", x, 0, 3, 2, 1);
        for (int bad : new int[] {LEAST, -1, 2, MOST}) {
            checks("no such TRACE", x, bad, BAD, BAD, BAD);
        }
        for (int bad : new int[] {LEAST, -1, 3, MOST}) {
            is("what " + bad, x.checks(0, bad), BAD);
        }
    }

    private void snapshot() {
        sentence("SNAPSHOT (what = 0), NEWS (1) of an ENTRY, as bits. BAD.");
        TraceTrees x = loop(SET, 7, 0, 0, SET, 0, 0, 0);
        is("the first", x.snapshot(0, 0, 0), 0);
        is("the first, NEWS", x.snapshot(0, 0, 1), 0);
        is("the highest bit", x.snapshot(0, 1, 0), 128);
        is("the lowest bit", x.snapshot(0, 2, 1), 1);
        for (int bad : new int[] {LEAST, -1, 3, 16, MOST}) {
            is("ENTRY " + bad, x.snapshot(0, bad, 0), BAD);
            is("ENTRY " + bad, x.snapshot(0, bad, 1), BAD);
        }
        for (int bad : new int[] {LEAST, -1, 1, MOST}) {
            is("TRACE " + bad, x.snapshot(bad, 0, 0), BAD);
        }
        for (int bad : new int[] {LEAST, -1, 2, MOST}) {
            is("what " + bad, x.snapshot(0, 0, bad), BAD);
        }
    }

    private void writes() {
        sentence("REGISTERS written by a TRACE, as bits. BAD.");
        int[] want = {16, 16, 16, 16, 16, 16, 0, 0, 0};
        for (int kind = SET; kind <= ASK; kind++) {
            is("KIND " + kind, onlyThis(kind, kind < LESS ? 12 : 1, 2, 3).writes(0), want[kind]);
        }
        TraceTrees x = loop(SET, 0, 0, 0, SET, 1, 0, 0, SET, 2, 0, 0, SET, 3, 0, 0, SET, 4, 0, 0, SET, 5, 0, 0,
                SET, 6, 0, 0, SET, 7, 0, 0);
        is("all", x.writes(0), 255);
        for (int bad : new int[] {LEAST, -1, 1, 8, MOST}) {
            is("TRACE " + bad, x.writes(bad), BAD);
        }
        is("the last ENTRY too", loopsAndAgain(7).writes(7), 1);
    }

    private void betterCall() {
        sentence("BETTER: which (what = 0), how many (1). BAD.");
        TraceTrees x = longAtFirst(9);
        is("which", x.better(0), 9);
        is("how many", x.better(1), 16);
        for (int bad : new int[] {LEAST, -1, 2, MOST}) {
            is("what " + bad, x.better(bad), BAD);
        }
        is("as told, with that HOT", limited(longAtFirst(9), 200, 9).ends(3), 16);
    }
}
