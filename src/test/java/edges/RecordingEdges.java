/** What is RECORDED, how a RECORDING ends, and by what it is DROPPED. */
final class RecordingEdges extends Edges {

    RecordingEdges(Due due) {
        super(due);
    }

    @Override
    void ask() {
        kindsAheadOfIt();
        ways();
        endsAheadOfTheHead();
        limitJustAtTheHead();
        seventeenth();
        anotherHead();
        anotherHeadAtOnce();
        jumpToItsOwnPoint();
        jumpToOneAhead();
        jumpToTheHead();
        whereTheProgramEnds();
        whereLimitIsReached();
        firstAndSecondDrop();
        secondDropOfOneHead();
    }

    private void kindsAheadOfIt() {
        sentence("As long as RECORDING goes on, each STEP is an ENTRY: its POINT, the kinds that Y and Z have ahead of it "
                + "(0 WHOLE, 1 FLOAT)");
        TraceTrees x = with(COPY, 0, 0, 6, ADD, 0, 0, 0, HALVE, 0, 0, 0, GO, 0, 0, 0);
        x.load(6, WHOLE, MOST);
        entry("REGISTER 0 was a FLOAT", x, 0, 0, 0, FLOAT, WHOLE, 0);
        entry("it is a WHOLE, and becomes a FLOAT", x, 0, 1, 1, WHOLE, WHOLE, 1);
        entry("it is a FLOAT", x, 0, 2, 2, FLOAT, FLOAT, 1);
        entry("still", x, 0, 3, 3, FLOAT, FLOAT, 0);
        trace("each STEP", x, 0, 0, NONE, NONE, 4);
        for (int kind : new int[] {SET, COPY, HALVE, GO, ASK}) {
            for (int mask = 0; mask < 4; mask++) {
                TraceTrees y = onlyThis(kind, kind < LESS ? 4 : 1, -6, 3);
                y.load(2, mask & 1, 8);
                y.load(3, mask >> 1, 8);
                entry("whether or not it reads them, KIND " + kind, y, 0, 0, 0, mask & 1, mask >> 1);
            }
        }
    }

    private void way(int kind, int kindY, int y, int kindZ, int z, int want) {
        TraceTrees x = onlyThis(kind, kind < LESS ? 4 : 1, 2, 3);
        x.load(2, kindY, y);
        x.load(3, kindZ, z);
        entry("KIND " + kind + " of " + y + " and " + z, x, 0, 0, 0, kindY, kindZ, want);
    }

    private void ways() {
        sentence("and its WAY: of ADD, SUB, MUL, HALVE the kind that comes out (0, 1), of LESS, ASK whether it JUMPS (1, 0), "
                + "else 0.");
        int[][] overflow = {{ADD, MOST, 1}, {SUB, LEAST, 1}, {MUL, MOST, 2}};
        for (int[] o : overflow) {
            way(o[0], WHOLE, 4, WHOLE, 1, 0);
            way(o[0], WHOLE, o[1], WHOLE, o[2], 1);
            way(o[0], FLOAT, 4, WHOLE, 4, 1);
            way(o[0], WHOLE, 4, FLOAT, 4, 1);
        }
        way(HALVE, WHOLE, 0, WHOLE, 4, 0);
        way(HALVE, WHOLE, 0, WHOLE, 5, 1);
        way(HALVE, WHOLE, 0, FLOAT, 4, 1);
        way(LESS, WHOLE, 4, WHOLE, 5, 1);
        way(LESS, WHOLE, 5, WHOLE, 5, 0);
        way(ASK, WHOLE, 0, WHOLE, 5, 1);
        way(ASK, WHOLE, 0, FLOAT, 5, 0);
        way(SET, FLOAT, 4, FLOAT, 4, 0);
        way(COPY, FLOAT, 4, FLOAT, 4, 0);
        way(GO, FLOAT, 4, FLOAT, 4, 0);
    }

    private void endsAheadOfTheHead() {
        sentence("It ends ahead of a STEP at the HEAD, if there is any ENTRY: that is a TRACE.");
        TraceTrees one = limited(with(GO, 0, 0, 0), 600, 2);
        trace("one ENTRY, not none", one, 0, 0, NONE, NONE, 1, 598);
        ends("one ENTRY", one, 0, 0, 600, 597, 0, 0);
        TraceTrees most = limited(roundOf(16), 600, 2);
        trace("sixteen ENTRIES", most, 0, 0, NONE, NONE, 16, 35);
        ends("sixteen ENTRIES", most, 0, 8, 600, 600 - 48, 0, 0);
        for (int i = 0; i < 16; i++) {
            entry("each of sixteen", most, 0, i, i);
        }
        is("no seventeenth", most.entry(0, 16, 0), BAD);
    }

    private void limitJustAtTheHead() {
        sentence("It ends ahead of a STEP at the HEAD");
        TraceTrees x = limited(with(GO, 0, 0, 0), 3, 2);
        ends("the HEAD would be next, but no STEP is", x, 0, 0, 3, 0, 0, 1);
        is("no TRACE", x.count(3), 0);
        x.set(LIMIT, 4);
        ends("a STEP is", x, 0, 0, 4, 1, 0, 0);
        is("a TRACE", x.count(3), 1);
    }

    /** Round 3 is RECORDED; its STEP 17, the jump back, is the STEP 51 of the RUN. */
    private void seventeenth() {
        sentence("It is DROPPED ahead of a STEP that would be a seventeenth ENTRY");
        TraceTrees x = limited(roundOf(17), 51, 2);
        ends("seventeen STEPS", x, 0, 0, 51, 0, 0, 1);
        heat("that STEP is not RECORDED, and heats", x, 0, 1, 0, NONE);
        x.set(LIMIT, 600);
        is("no TRACE", x.count(3), 0);
        is("a TRACE of sixteen", limited(roundOf(16), 600, 2).count(3), 1);
    }

    /** The outer loop is RECORDED from STEP 40 on: its STEP 41 is at the HEAD of the inner one. */
    private void anotherHead() {
        sentence("ahead of a STEP at the HEAD of another TRACE");
        TraceTrees x = loopInALoop();
        x.set(LIMIT, 39);
        ends("ahead of it", x, 0, 0, 39, 21, 3, 2);
        x.set(LIMIT, 41);
        ends("behind it: it was COMPILED", x, 0, 2, 41, 22, 3, 2);
        heat("HEAT of the outer loop", x, 0, 0, 0, NONE);
        trace("the inner one", x, 0, 1, NONE, NONE, 2, 13);
        is("no other", x.count(3), 1);
    }

    /**
     * Loop 0 is RECORDED while 1 is not yet a loop of its own; later 1 is one, and loop 0 has an EXIT
     * just there: a BRANCH that begins at the HEAD of another TRACE is DROPPED ahead of its first STEP.
     */
    private void anotherHeadAtOnce() {
        sentence("ahead of a STEP at the HEAD of another TRACE");
        TraceTrees x = with(ADD, 0, 0, 1, LESS, 2, 0, 5, ADD, 3, 3, 1, LESS, 1, 3, 4, ADD, 4, 4, 2, GO, 0, 0, 0);
        x.load(1, WHOLE, 1);
        x.load(2, WHOLE, 4);
        x.load(4, WHOLE, -10);
        x.load(5, WHOLE, 7);
        limited(x, 65, 2);
        ends("a BRANCH", x, 0, 2, 65, 19, 10, 2);
        entry("it is none", x, 0, 1, 1, WHOLE, WHOLE, 1, 2, NONE);
        heat("its HEAD", x, 0, 0, 1, 0);
    }

    /** Round 3 is RECORDED and runs into a STEP that jumps to itself: dropped behind the first time. */
    private void jumpToItsOwnPoint() {
        sentence("behind a STEP that JUMPS to its own POINT");
        TraceTrees x = with(ADD, 0, 0, 1, LESS, 0, 0, 2, GO, 2, 0, 0);
        x.load(1, WHOLE, 1);
        x.load(2, WHOLE, 3);
        limited(x, 8, 2);
        ends("RECORDED once", x, 0, 2, 8, 0, 0, 1);
        heat("the second jump heats", x, 2, 1, 0, NONE);
        heat("HEAD", x, 0, 0, 0, NONE);
        x.set(LIMIT, 11);
        ends("a loop of its own", x, 0, 2, 11, 1, 0, 1);
        trace("a loop of its own", x, 0, 2, NONE, NONE, 1, 2);
    }

    /** In round 2 a BRANCH is RECORDED: 2, 3, 4, and back to 0, which is not its HEAD. */
    private void jumpToOneAhead() {
        sentence("behind a STEP that JUMPS to its own POINT or one ahead of it, but for the HEAD");
        TraceTrees x = loopInALoop();
        x.set(LIMIT, 28);
        ends("DROPPED", x, 0, 2, 28, 13, 2, 1);
        is("no BRANCH", x.count(3), 1);
        heat("that jump did not heat", x, 0, 1, 0, NONE);
        heat("its HEAD", x, 1, 0, 0, 0);
    }

    private void jumpToTheHead() {
        sentence("but for the HEAD");
        TraceTrees x = limited(with(SET, 0, 0, 0, SET, 0, 0, 0, GO, 1, 0, 0), 100, 2);
        ends("not DROPPED", x, 0, 2, 100, 100 - 7, 0, 0);
        is("not DROPPED, to its own POINT", limited(with(GO, 0, 0, 0), 100, 2).ends(5), 0);
    }

    /** Rounds 1 and 2 make it hot; 3, the last one, is RECORDED. */
    private static TraceTrees threeRounds() {
        TraceTrees x = with(ADD, 0, 0, 1, LESS, 0, 0, 2);
        x.load(1, WHOLE, 1);
        x.load(2, WHOLE, 3);
        x.set(HOT, 2);
        return x;
    }

    private void whereTheProgramEnds() {
        sentence("where the program ends");
        TraceTrees x = threeRounds();
        ends("where no CODE is", x, 2, 2, 6, 0, 0, 1);
        heat("where no CODE is", x, 0, 0, 0, NONE);
        x.add(STOP, 0, 0, 0);
        ends("by STOP", x, 1, 2, 7, 0, 0, 1);
        heat("by STOP", x, 0, 0, 0, NONE);
    }

    private void whereLimitIsReached() {
        sentence("where the program ends, or LIMIT is reached.");
        TraceTrees x = threeRounds();
        x.set(LIMIT, 3);
        ends("not yet hot", x, 0, 1, 3, 0, 0, 0);
        heat("not yet hot", x, 0, 1, 0, NONE);
        x.set(LIMIT, 4);
        ends("as it begins", x, 0, 0, 4, 0, 0, 1);
        heat("as it begins", x, 0, 0, 0, NONE);
        x.set(LIMIT, 5);
        ends("behind its first STEP", x, 0, 1, 5, 0, 0, 1);
        heat("behind its first STEP", x, 0, 0, 0, NONE);
    }

    /** Rounds 3 and 5 are RECORDED, of 17 STEPS each: the STEPS 35 to 50, 69 to 84. */
    private void firstAndSecondDrop() {
        sentence("If it is DROPPED, HEAT of the HEAD is 0, and the HEAD is BARRED, if that is the second time for it.");
        int[][] cases = {{33, 1, 0, 0}, {34, 0, 0, 1}, {50, 0, 0, 1}, {51, 1, 0, 1}, {67, 1, 0, 1}, {68, 0, 1, 2},
            {84, 0, 1, 2}, {85, 1, 1, 2}, {102, 2, 1, 2}, {119, 3, 1, 2}};
        for (int[] c : cases) {
            TraceTrees x = limited(roundOf(17), c[0], 2);
            heat("LIMIT " + c[0], x, 0, c[1], c[2], NONE);
            is("LIMIT " + c[0], x.ends(5), c[3]);
        }
    }

    private void secondDropOfOneHead() {
        sentence("if that is the second time for it");
        TraceTrees x = loopInALoop();
        is("three in all", x.ends(5), 3);
        heat("twice", x, 0, 4, 1, NONE);
        heat("once", x, 1, 0, 0, 0);
    }
}
