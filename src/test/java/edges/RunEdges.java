/** The RUN, HEAT and what makes a loop hot, and promises 9 to 12. */
final class RunEdges extends Edges {

    RunEdges(Due due) {
        super(due);
    }

    @Override
    void ask() {
        begins();
        limit();
        recordedCountsAsInterpreted();
        coldAtFirst();
        jumpsThatHeat();
        stepsThatDoNotHeat();
        hot();
        notBarred();
        noTraceWithThatHead();
        lessThanEightTraces();
        fromTheNextStepOn();
        value();
        plain();
        ends();
        heat();
    }

    private void begins() {
        sentence("A RUN begins at POINT 0, with REGISTERS as LOADED (WHOLES 0 at first)");
        TraceTrees fresh = new TraceTrees();
        for (int r = 0; r < 8; r++) {
            register("at first", fresh, r, WHOLE, 0);
        }
        TraceTrees x = with(ADD, 0, 0, 1, GO, 0, 0, 0);
        x.load(0, WHOLE, 5);
        x.load(1, WHOLE, 1);
        x.set(LIMIT, 4);
        register("two rounds", x, 0, WHOLE, 7);
        x.set(LIMIT, 2);
        register("the next RUN begins anew", x, 0, WHOLE, 6);
        x.load(0, FLOAT, 6);
        register("a FLOAT", x, 0, FLOAT, bits(2.5f));
        x.load(0, WHOLE, -1);
        register("a WHOLE again", x, 0, WHOLE, 0);
    }

    private void limit() {
        sentence("at most LIMIT (0 to 600; 200 at first) STEPS: each does the CODE at one POINT.");
        TraceTrees x = with(ADD, 0, 0, 1, GO, 0, 0, 0);
        x.load(1, WHOLE, 1);
        ends("at first", x, 0, 0, 200);
        x.set(LIMIT, 0);
        ends("none", x, 0, 0, 0);
        register("none", x, 0, WHOLE, 0);
        x.set(LIMIT, 1);
        ends("one", x, 0, 1, 1);
        register("one", x, 0, WHOLE, 1);
        x.set(LIMIT, 600);
        ends("the most", x, 0, 0, 600);
        register("the most", x, 0, WHOLE, 300);
        x.set(LIMIT, 601);
        ends("one more is refused", x, 0, 0, 600);
        x.set(LIMIT, -1);
        ends("one less than none is refused", x, 0, 0, 600);
        x.set(LIMIT, 599);
        ends("an odd one", x, 0, 1, 599);
    }

    private void recordedCountsAsInterpreted() {
        sentence("A STEP is INTERPRETED or COMPILED (or RECORDED, which counts as INTERPRETED).");
        int[][] cases = {{3, 0}, {4, 0}, {5, 1}, {6, 2}};
        for (int[] c : cases) {
            is("of " + c[0] + " STEPS", limited(with(GO, 0, 0, 0), c[0], 3).ends(3), c[1]);
        }
    }

    private void coldAtFirst() {
        sentence("HEAT of a POINT is 0 at first.");
        TraceTrees x = new TraceTrees();
        TraceTrees y = with(SET, 0, 0, 0, GO, 3, 0, 0, SET, 0, 0, 0, STOP, 0, 0, 0);
        for (int point = 0; point < 24; point++) {
            heat("no CODE", x, point, 0, 0, NONE);
            heat("no jump back", y, point, 0, 0, NONE);
        }
    }

    private void jumpsThatHeat() {
        sentence("whenever an INTERPRETED STEP JUMPS to its own POINT or one ahead of it, HEAT of that one is 1 more");
        heat("GO to its own", limited(with(GO, 0, 0, 0), 1, 9), 0, 1);
        heat("ASK to its own", limited(with(ASK, 0, 0, 0), 2, 9), 0, 2);
        TraceTrees own = limited(with(LESS, 0, 0, 1), 1, 9);
        own.load(1, WHOLE, 1);
        heat("LESS to its own", own, 0, 1);
        TraceTrees x = limited(with(SET, 0, 0, 0, SET, 2, 0, 0, GO, 1, 0, 0), 3, 9);
        heat("GO to one ahead", x, 1, 1);
        heat("but not its own then", x, 2, 0);
        heat("nor another", x, 0, 0);
        x.alter(2, ASK, 0, 0, 0);
        heat("ASK to one ahead", x, 0, 1);
        x.alter(2, LESS, 0, 0, 1);
        x.load(1, WHOLE, 1);
        heat("LESS to one ahead", x, 0, 1);
        x.set(LIMIT, 24);
        heat("as often as it jumps", x, 0, 8);
    }

    private void stepsThatDoNotHeat() {
        sentence("As long as nothing is RECORDED, whenever an INTERPRETED STEP JUMPS");
        TraceTrees x = with(SET, 0, 0, 0, LESS, 0, 0, 0, GO, 3, 0, 0, ASK, 5, 0, 0);
        for (int point = 0; point < 24; point++) {
            heat("a LESS that does not jump, jumps to points behind", x, point, 0);
        }
        TraceTrees y = with(ASK, 0, 0, 1, SET, 0, 0, 0);
        y.load(1, FLOAT, 1);
        heat("an ASK that does not jump", y, 0, 0);
        heat("RECORDED and COMPILED ones", limited(with(GO, 0, 0, 0), 600, 3), 0, 3);
        // In the second round a BRANCH is RECORDED, up to the jump back to POINT 0.
        TraceTrees z = loopInALoop();
        z.set(LIMIT, 27);
        heat("RECORDED to a POINT that is not the HEAD", z, 0, 1);
    }

    private void hot() {
        sentence("if it is HOT (2 to 9; 3 at first) then");
        is("at first", with(GO, 0, 0, 0).ends(3), 200 - 4);
        for (int hot = 2; hot <= 9; hot++) {
            TraceTrees x = limited(with(GO, 0, 0, 0), 100, hot);
            is("HOT " + hot, x.ends(3), 100 - hot - 1);
            heat("HOT " + hot, x, 0, hot, 0, 0);
            x.set(LIMIT, hot - 1);
            heat("one jump less than " + hot, x, 0, hot - 1);
            ends("one jump less than " + hot, x, 0, 0, hot - 1, 0, 0, 0);
            x.set(LIMIT, hot + 1);
            ends("RECORDED with " + hot, x, 0, 0, hot + 1, 0, 0, 1);
        }
        TraceTrees y = limited(with(GO, 0, 0, 0), 100, 2);
        y.set(HOT, 1);
        y.set(HOT, 10);
        is("1 and 10 are refused", y.ends(3), 97);
    }

    /** Each round is 17 STEPS: rounds 3 and 5 are RECORDED and DROPPED ahead of the jump back. */
    private void notBarred() {
        sentence("and not BARRED");
        TraceTrees x = limited(roundOf(17), 600, 2);
        ends("two RECORDINGS alone", x, 0, 5, 600, 0, 0, 2);
        heat("HEAT goes on", x, 0, 31, 1, NONE);
    }

    /**
     * HOT 2: 0 even, 1 odd, 2 is RECORDED; at 5, the second EXIT, a BRANCH is RECORDED and DROPPED: HEAT
     * is 0. It is 2 behind 7, but there is a TRACE with that HEAD.
     */
    private void noTraceWithThatHead() {
        sentence("and there is no TRACE with that HEAD");
        TraceTrees x = limited(evenAndLongOdd(0), 600, 2);
        ends("one DROPPED, of a BRANCH", x, 0, 0, 600, 88, 23, 1);
        heat("HEAT goes on", x, 0, 22, 0, 0);
        trace("the only one", x, 0, 0, NONE, NONE, 4, 45);
        is("TRACES", x.count(3), 1);
    }

    private void lessThanEightTraces() {
        sentence("and there are less than 8 TRACES, RECORDING of one begins");
        TraceTrees x = loops(8);
        ends("eight loops", x, 2, 16, 80, 24, 8, 0);
        is("eight TRACES", x.count(3), 8);
        trace("the eighth", x, 7, 14, NONE, NONE, 2, 2);
        heat("the eighth", x, 14, 2, 0, 7);
        TraceTrees y = loops(9);
        ends("nine loops", y, 2, 18, 90, 24, 8, 0);
        is("eight TRACES", y.count(3), 8);
        heat("the ninth gets hot for nothing", y, 16, 4, 0, NONE);
        trace("no ninth", y, 8, BAD, BAD, BAD, BAD, BAD);
    }

    private void fromTheNextStepOn() {
        sentence("RECORDING of one begins, from the next STEP on, with that POINT as its HEAD.");
        TraceTrees x = limited(with(SET, 0, 0, 0, ADD, 0, 0, 1, GO, 1, 0, 0), 11, 3);
        x.load(1, WHOLE, 1);
        trace("HEAD", x, 0, 1, NONE, NONE, 2);
        entry("the first ENTRY", x, 0, 0, 1, WHOLE, WHOLE, 0, 0, NONE);
        entry("the last ENTRY", x, 0, 1, 2, WHOLE, WHOLE, 0, 0, NONE);
        entry("no more", x, 0, 2, BAD);
        ends("three rounds, one RECORDED", x, 0, 1, 11, 2, 0, 0);
    }

    private void value() {
        sentence("Behind the RUN of a REGISTER the kind (what = 0), the WHOLE, or the bits of the FLOAT as "
                + "floatToIntBits() tells (1). BAD: the least int.");
        TraceTrees x = with(SET, 0, -5, 0, HALVE, 7, 0, 0);
        is("kind of a WHOLE", x.value(0, 0), WHOLE);
        is("the WHOLE", x.value(0, 1), -5);
        is("kind of a FLOAT", x.value(7, 0), FLOAT);
        is("its bits", x.value(7, 1), bits(-2.5f));
        for (int bad : new int[] {LEAST, -1, 8, MOST}) {
            is("REGISTER " + bad, x.value(bad, 0), LEAST);
        }
        for (int bad : new int[] {LEAST, -1, 2, MOST}) {
            is("what " + bad, x.value(0, bad), LEAST);
        }
        TraceTrees y = with(MUL, 0, 0, 0, MUL, 0, 0, 0, MUL, 0, 0, 0, SUB, 0, 0, 0, SUB, 1, 2, 0);
        y.load(0, WHOLE, MOST);
        is("what is no number has these bits alone", y.value(0, 1), 0x7fc00000);
        is("and below 0 too", y.value(1, 1), 0x7fc00000);
    }

    private void plain() {
        sentence("Likewise, by a RUN in which nothing gets hot. BAD: the least int.");
        TraceTrees x = limited(evenAndOdd(MOST - 7), 40, 2);
        int compiled = x.ends(3);
        register("wholes, then floats", x, 0, FLOAT, bits(2147483648f));
        is("it was not asked for in vain", compiled > 0 ? 1 : 0, 1);
        x.plain(0, 0);
        is("the RUN is what it was", x.ends(3), compiled);
        for (int bad : new int[] {LEAST, -1, 8, MOST}) {
            is("REGISTER " + bad, x.plain(bad, 0), LEAST);
        }
        for (int bad : new int[] {LEAST, -1, 2, MOST}) {
            is("what " + bad, x.plain(0, bad), LEAST);
        }
    }

    private void ends() {
        sentence("How it ends (what = 0: 0 by LIMIT, 1 by STOP, 2 where no CODE is), the POINT that would be next "
                + "(1; of STOP its own), STEPS (2), COMPILED ones (3), EXITS (4), how many RECORDINGS were DROPPED (5). BAD.");
        TraceTrees x = with(SET, 0, 0, 0, STOP, 0, 0, 0);
        ends("by STOP", x, 1, 1, 2, 0, 0, 0);
        x.set(LIMIT, 2);
        ends("by STOP, and LIMIT is reached with it", x, 1, 1, 2, 0, 0, 0);
        x.set(LIMIT, 1);
        ends("by LIMIT", x, 0, 1, 1, 0, 0, 0);
        x.set(LIMIT, 0);
        ends("by LIMIT 0", x, 0, 0, 0, 0, 0, 0);
        x.back();
        x.set(LIMIT, 2);
        ends("where no CODE is", x, 2, 1, 1, 0, 0, 0);
        x.set(LIMIT, 1);
        ends("where no CODE is, and LIMIT is reached with it", x, 2, 1, 1, 0, 0, 0);
        x.back();
        x.set(LIMIT, 0);
        ends("no CODE at all, LIMIT 0", x, 2, 0, 0, 0, 0, 0);
        ends("each of them", loopInALoop(), 2, 5, 130, 84, 10, 3);
        for (int bad : new int[] {LEAST, -1, 6, MOST}) {
            is("what " + bad, x.ends(bad), BAD);
        }
    }

    private void heat() {
        sentence("HEAT of a POINT (0 to 23; what = 0), whether it is BARRED (1: 1, 0), the TRACE with that HEAD that is "
                + "no BRANCH (2; NONE). BAD.");
        TraceTrees x = loopInALoop();
        heat("the outer loop", x, 0, 4, 1, NONE);
        heat("the inner one", x, 1, 0, 0, 0);
        heat("no CODE is there", x, 23, 0, 0, NONE);
        TraceTrees y = limited(evenAndOdd(0), 60, 2);
        is("there is a BRANCH", y.trace(1, 1), 0);
        heat("it is not told", y, 0, 3, 0, 0);
        for (int bad : new int[] {LEAST, -1, 24, MOST}) {
            is("POINT " + bad, x.heat(bad, 0), BAD);
        }
        for (int bad : new int[] {LEAST, -1, 3, MOST}) {
            is("what " + bad, x.heat(0, bad), BAD);
        }
        is("of the last POINT, once it is a loop", lastPointLoop().heat(23, 2), 0);
    }

    /** The last POINT that there can be, jumping to itself. */
    private static TraceTrees lastPointLoop() {
        TraceTrees x = new TraceTrees();
        for (int i = 0; i < 23; i++) {
            x.add(SET, 0, i, 0);
        }
        x.add(GO, 23, 0, 0);
        return x;
    }
}
