/** What is COMPILED, how it FAILS, and where an EXIT leads. */
final class CompiledEdges extends Edges {

    CompiledEdges(Due due) {
        super(due);
    }

    @Override
    void ask() {
        aheadOfAHead();
        fromTheLastToTheFirst();
        fromABranchToTheFirst();
        kindsThatFail();
        waysThatFail();
        failsAndDoesNothing();
        failsAtTheLimit();
        branch();
        branchThatFailsToo();
        justHot();
        hotOnce();
        barred();
        eightTraces();
        interpretedAtAHead();
        branchEnds();
        branchDropped();
    }

    /** The inner loop is entered from above, as the next POINT, in round 2: STEP 15. */
    private void aheadOfAHead() {
        sentence("As long as nothing is RECORDED, ahead of a STEP at the HEAD of a TRACE the STEPS are COMPILED");
        TraceTrees x = loopInALoop();
        x.set(LIMIT, 14);
        ends("ahead of the HEAD", x, 0, 1, 14, 3, 1, 0);
        trace("ahead of the HEAD", x, 0, 1, NONE, NONE, 2, 2);
        x.set(LIMIT, 15);
        ends("behind it", x, 0, 2, 15, 4, 1, 0);
        trace("behind it", x, 0, 1, NONE, NONE, 2, 3);
    }

    private void fromTheLastToTheFirst() {
        sentence("by its ENTRIES, one behind another, and from the last one to the first");
        TraceTrees x = limited(roundOf(3), 12, 2);
        ends("one round", x, 0, 0, 12, 3, 0, 0);
        trace("and begun once more", x, 0, 0, NONE, NONE, 3, 2);
        x.set(LIMIT, 11);
        trace("the last is not done", x, 0, 0, NONE, NONE, 3, 1);
        x.set(LIMIT, 18);
        trace("three rounds", x, 0, 0, NONE, NONE, 3, 4);
    }

    /** 0 and 1 make it hot, 2 is RECORDED; 3 is the first EXIT, 5 the second: a BRANCH; from 6 on all is COMPILED. */
    private void fromABranchToTheFirst() {
        sentence("from the last one to the first of the TRACE with that HEAD.");
        TraceTrees x = limited(evenAndOdd(0), 60, 2);
        ends("twenty rounds", x, 0, 0, 60, 45, 9, 0);
        trace("the TRACE", x, 0, 0, NONE, NONE, 3, 18);
        trace("its BRANCH", x, 1, 0, 0, 0, 3, 7);
        register("number", x, 0, WHOLE, 20);
        x.set(LIMIT, 59);
        trace("the last of the BRANCH is not done", x, 0, 0, NONE, NONE, 3, 17);
    }

    /**
     * A loop of 3 STEPS, left behind round 4; then a REGISTER becomes what REGISTER 6 is, and STEP 16 is the
     * tested code again, ENTRY 0 of the TRACE.
     */
    private static TraceTrees thenAnother(int kind, int register) {
        TraceTrees x = with(kind, kind < LESS ? 4 : 1, 2, 3, ADD, 0, 0, 1, LESS, 0, 0, 5, COPY, register, 0, 6,
                SET, 0, 0, 0, GO, 0, 0, 0);
        x.load(1, WHOLE, 1);
        x.load(5, WHOLE, 4);
        return limited(x, 16, 2);
    }

    private void fails(String name, TraceTrees x, boolean want) {
        ends(name, x, 0, 1, 16, want ? 2 : 3, want ? 2 : 1, 0);
        is(name + ": HITS", x.entry(0, 0, 4), want ? 1 : 0);
    }

    private void kindsThatFail() {
        sentence("An ENTRY FAILS, if a kind that it reads (of ADD, SUB, MUL, LESS Y and Z, of COPY, HALVE, ASK Z) "
                + "is not as it was");
        boolean[] readsY = {false, false, true, true, true, false, true, false, false};
        boolean[] readsZ = {false, true, true, true, true, true, true, false, true};
        for (int kind = SET; kind <= ASK; kind++) {
            for (int before = WHOLE; before <= FLOAT; before++) {
                fails("Y of KIND " + kind + ", was " + before, changing(kind, 2, before, 1 - before), readsY[kind]);
                fails("Z of KIND " + kind + ", was " + before, changing(kind, 3, before, 1 - before), readsZ[kind]);
                fails("Y stays, KIND " + kind, changing(kind, 2, before, before), false);
                fails("Z stays, KIND " + kind, changing(kind, 3, before, before), false);
            }
        }
    }

    /** 5, or the FLOAT 5, so that the WAY stays as it was; what else is read is the FLOAT 7. */
    private static TraceTrees changing(int kind, int register, int before, int after) {
        TraceTrees x = thenAnother(kind, register);
        x.load(5 - register, FLOAT, 28);
        x.load(register, before, before == FLOAT ? 20 : 5);
        x.load(6, after, after == FLOAT ? 20 : 5);
        return x;
    }

    private static TraceTrees changing(int kind, int register, int other, int before, int after, boolean back) {
        TraceTrees x = thenAnother(kind, register);
        x.load(5 - register, WHOLE, other);
        x.load(register, WHOLE, back ? after : before);
        x.load(6, WHOLE, back ? before : after);
        return x;
    }

    private void waysThatFail() {
        sentence("or its WAY is not.");
        int[][] cases = {{ADD, 2, 1, MOST - 1, MOST}, {SUB, 2, 1, LEAST + 1, LEAST}, {MUL, 2, 2, 1 << 29, 1 << 30},
            {HALVE, 3, 0, 4, 5}, {LESS, 2, 7, 6, 7}, {LESS, 3, 7, 7, 8}};
        for (int[] c : cases) {
            fails("KIND " + c[0], changing(c[0], c[1], c[2], c[3], c[4], false), true);
            fails("KIND " + c[0] + ", the other way round", changing(c[0], c[1], c[2], c[3], c[4], true), true);
        }
        int[][] alike = {{ADD, 2, 1, 5, MOST - 1}, {SUB, 2, 1, 5, LEAST + 1}, {MUL, 2, 2, 5, 1 << 29}, {HALVE, 3, 0, 4, 6},
            {HALVE, 3, 0, 5, 7}, {LESS, 2, 7, 5, 6}, {LESS, 2, 7, 8, 9}, {SET, 2, 0, 4, 5}, {COPY, 3, 0, 4, 5}};
        for (int[] c : alike) {
            fails("the same WAY, KIND " + c[0], changing(c[0], c[1], c[2], c[3], c[4], false), false);
        }
    }

    private void failsAndDoesNothing() {
        sentence("One that FAILS does nothing: that is an EXIT; HITS of that ENTRY are 1 more.");
        TraceTrees x = evenAndOdd(0);
        limited(x, 9, 2);
        ends("no STEP COMPILED yet", x, 0, 0, 9, 0, 0, 1);
        x.set(LIMIT, 10);
        ends("it is done once, and not by the TRACE", x, 0, 1, 10, 0, 1, 0);
        entry("it", x, 0, 0, 0, WHOLE, WHOLE, 0, 1, NONE);
        entry("another ENTRY", x, 0, 1, 1, WHOLE, WHOLE, 0, 0, NONE);
        register("done once", x, 3, FLOAT, bits(1.5f));
        register("not yet", x, 0, WHOLE, 3);
        TraceTrees y = loops(1);
        ends("an ENTRY that writes, ahead of one that FAILS", y, 2, 2, 10, 3, 1, 0);
        register("added once each round", y, 0, WHOLE, 5);
        entry("where it left", y, 0, 1, 1, WHOLE, WHOLE, 1, 1, NONE);
    }

    /** STEP 16 would FAIL, but LIMIT is reached: no ENTRY is tried. */
    private void failsAtTheLimit() {
        sentence("that is an EXIT");
        TraceTrees x = changing(ADD, 2, WHOLE, FLOAT);
        x.set(LIMIT, 15);
        ends("no EXIT", x, 0, 0, 15, 2, 1, 0);
        is("no HIT", x.entry(0, 0, 4), 0);
    }

    private void branch() {
        sentence("If it has a BRANCH, the STEPS go on with the first ENTRY of that");
        TraceTrees x = limited(evenAndOdd(0), 21, 2);
        ends("7 is next", x, 0, 0, 21, 6, 2, 0);
        entry("the BRANCH", x, 0, 0, 0, WHOLE, WHOLE, 0, 2, 1);
        trace("not begun yet", x, 1, 0, 0, 0, 3, 0);
        x.set(LIMIT, 22);
        ends("an EXIT, and COMPILED", x, 0, 1, 22, 7, 3, 0);
        entry("HITS", x, 0, 0, 0, WHOLE, WHOLE, 0, 3, 1);
        entry("no HITS there", x, 1, 0, 0, WHOLE, WHOLE, 1, 0, NONE);
        trace("begun", x, 1, 0, 0, 0, 3, 1);
    }

    /** The number comes to be a FLOAT: the TRACE FAILS and so does its BRANCH, both at the HEAD, ahead of one STEP. */
    private void branchThatFailsToo() {
        sentence("the STEPS go on with the first ENTRY of that");
        TraceTrees x = limited(evenAndOdd(MOST - 7), 24, 2);
        ends("it is a FLOAT now", x, 0, 0, 24, 7, 4, 0);
        entry("where it became one", x, 1, 1, 1, WHOLE, WHOLE, 0, 1, NONE);
        x.set(LIMIT, 25);
        ends("two EXITS", x, 0, 1, 25, 7, 6, 0);
        entry("the TRACE", x, 0, 0, 0, WHOLE, WHOLE, 0, 4, 1);
        entry("the BRANCH", x, 1, 0, 0, WHOLE, WHOLE, 1, 1, NONE);
        x.set(LIMIT, 31);
        ends("a BRANCH of the BRANCH", x, 0, 1, 31, 8, 10, 0);
        trace("a BRANCH of the BRANCH", x, 2, 0, 1, 0, 3, 1);
        entry("the BRANCH", x, 1, 0, 0, WHOLE, WHOLE, 1, 3, 2);
    }

    /** With HOT h, rounds 0 to h - 1 make it hot, h is RECORDED, h + 1, h + 3 .. are EXITS: the h-th is 3 h - 1. */
    private void justHot() {
        sentence("else, if HITS are HOT (just)");
        for (int hot = 2; hot <= 9; hot++) {
            int ahead = 3 * (3 * hot - 1);
            TraceTrees x = limited(evenAndOdd(0), ahead, hot);
            is("one less than " + hot, x.entry(0, 0, 4), hot - 1);
            is("one less than " + hot, x.ends(5), 0);
            x.set(LIMIT, ahead + 1);
            is("just " + hot, x.entry(0, 0, 4), hot);
            is("RECORDED as LIMIT comes, with " + hot, x.ends(5), 1);
            x.set(LIMIT, ahead + 4);
            trace("with " + hot, x, 1, 0, 0, 0, 3);
            is("its first POINT", x.entry(1, 0, 0), 0);
        }
    }

    private void hotOnce() {
        sentence("HITS are HOT (just)");
        TraceTrees x = limited(evenAndLongOdd(0), 600, 2);
        entry("HITS go on", x, 0, 0, 0, WHOLE, WHOLE, 0, 23, NONE);
        is("RECORDED once", x.ends(5), 1);
        is("no BRANCH", x.count(3), 1);
    }

    /**
     * An odd round is too long to be RECORDED; an even one has an EXIT from 14 on, with a short way.
     * 5 STEPS, 22 STEPS; HOT 3.
     */
    private static TraceTrees longOddAndExit(int first) {
        TraceTrees x = with(HALVE, 3, 0, 0, ASK, 19, 0, 3);
        for (int i = 0; i < 17; i++) {
            x.add(SET, 5, i, 0);
        }
        x.add(LESS, 20, 0, 2);
        x.add(ADD, 0, 0, 1);
        x.add(GO, 0, 0, 0);
        x.load(0, WHOLE, first);
        x.load(1, WHOLE, 1);
        x.load(2, WHOLE, 14);
        return x;
    }

    private void barred() {
        sentence("and the HEAD is not BARRED");
        TraceTrees x = limited(longOddAndExit(0), 270, 3);
        is("3 and a BRANCH at 11 are DROPPED", x.ends(5), 2);
        heat("BARRED", x, 0, 8, 1, 0);
        entry("14, 16, 18", x, 0, 2, 19, WHOLE, WHOLE, 1, 3, NONE);
        is("no BRANCH", x.count(3), 1);
        TraceTrees y = limited(longOddAndExit(1), 266, 3);
        is("a BRANCH at 9 is DROPPED", y.ends(5), 1);
        heat("not BARRED", y, 0, 8, 0, 0);
        entry("14, 16, 18", y, 0, 2, 19, WHOLE, WHOLE, 1, 3, 1);
        trace("a BRANCH", y, 1, 0, 0, 2, 3, 0);
        entry("its first", y, 1, 0, 19, WHOLE, WHOLE, 0, 0, NONE);
    }

    private void eightTraces() {
        sentence("and there are less than 8 TRACES, RECORDING of a BRANCH of it begins with that POINT, "
                + "and the HEAD of the TRACE");
        TraceTrees x = loopsAndAgain(7);
        x.set(LIMIT, 85);
        is("a BRANCH is the eighth", x.count(3), 8);
        trace("a BRANCH is the eighth", x, 7, 12, 6, 1, 3, 0);
        entry("its first POINT", x, 7, 0, 13, WHOLE, WHOLE, 0, 0, NONE);
        entry("where it left", x, 6, 1, 13, WHOLE, WHOLE, 1, 2, 7);
        TraceTrees y = loopsAndAgain(8);
        y.set(LIMIT, 95);
        ends("no ninth", y, 0, 15, 95, 34, 9, 0);
        is("no ninth", y.count(3), 8);
        entry("where it left", y, 7, 1, 15, WHOLE, WHOLE, 1, 2, NONE);
        heat("INTERPRETED", y, 14, 4, 0, 7);
        y.set(LIMIT, 600);
        is("nor later", y.count(3), 8);
        is("none DROPPED", y.ends(5), 0);
    }

    private void interpretedAtAHead() {
        sentence("else STEPS are INTERPRETED from that POINT on (that first one even if it is a HEAD).");
        TraceTrees x = limited(evenAndOdd(0), 10, 2);
        ends("the STEP at the HEAD", x, 0, 1, 10, 0, 1, 0);
        trace("begun once", x, 0, 0, NONE, NONE, 3, 1);
        x.set(LIMIT, 12);
        ends("and the others of that round", x, 0, 0, 12, 0, 1, 0);
        heat("they heat", x, 0, 3, 0, 0);
        x.set(LIMIT, 13);
        ends("up to the HEAD", x, 0, 1, 13, 1, 1, 0);
    }

    private void branchEnds() {
        sentence("A BRANCH is a TRACE too; RECORDING of it ends ahead of a STEP at the HEAD");
        TraceTrees x = limited(evenAndOdd(0), 18, 2);
        is("no STEP is ahead", x.count(3), 1);
        is("DROPPED by LIMIT", x.ends(5), 1);
        x.set(LIMIT, 19);
        is("a STEP is", x.count(3), 2);
        is("ENTRIES of both", x.count(7), 6);
        ends("COMPILED at once", x, 0, 1, 19, 4, 2, 0);
        trace("a TRACE too", x, 1, 0, 0, 0, 3, 0);
        is("REGISTERS that it writes", x.writes(1), 9);
        is("TRACE 2", x.trace(2, 0), BAD);
    }

    private void branchDropped() {
        sentence("if it is DROPPED, all is as told (HEAT of the HEAD 0, and so on; HITS stay).");
        TraceTrees x = limited(evenAndOdd(0), 15, 2);
        heat("ahead of it", x, 0, 3, 0, 0);
        x.set(LIMIT, 18);
        heat("by LIMIT", x, 0, 0, 0, 0);
        entry("HITS stay", x, 0, 0, 0, WHOLE, WHOLE, 0, 2, NONE);
        is("the second time for it", limited(longOddAndExit(0), 270, 3).heat(0, 1), 1);
    }
}
