/** Promises 13 to 18: trace, entry, checks, snapshot, writes, better. */
public final class TraceTest {
    private static final int MOST = Integer.MAX_VALUE, LEAST = Integer.MIN_VALUE;
    private static final Due DUE = new Due();

    public static void main(String[] args) {
        oneTrace();
        badArguments();
        checkOfOneRegisterTwice();
        kindsThatNoCodeReads();
        branchThatIsDropped();
        anotherHeadInABranch();
        better();
        DUE.end();
    }

    private static TraceTrees straight() {
        TraceTrees x = Due.with(1, 2, 0, 0, 2, 3, 2, 2, 8, 3, 0, 4, 4, 5, 4, 6, 6, 6, 5, 7, 0, 7, 4, 0, 7, 0, 0, 0);
        x.set(1, 2);
        return x;
    }

    private static void oneTrace() {
        TraceTrees x = straight();
        DUE.is("traces", x.count(3), 1);
        int[] told = {0, -1, -1, 6};
        for (int i = 0; i < told.length; i++) {
            DUE.is("13: trace " + i, x.trace(0, i), told[i]);
        }
        DUE.is("13: begun", x.trace(0, 4), (200 - 7 - 6 - 6) / 6 + 1);
        int[] points = {0, 1, 2, 3, 4, 6};
        int[] ways = {0, 0, 1, 0, 1, 0};
        for (int e = 0; e < 6; e++) {
            int[] entry = {points[e], 0, 0, ways[e], 0, -1};
            for (int what = 0; what < 6; what++) {
                DUE.is("14: entry " + e + " " + what, x.entry(0, e, what), entry[what]);
            }
        }
        DUE.is("15: all", x.checks(0, 0), 6);
        DUE.is("15: not known", x.checks(0, 1), 3);
        DUE.is("15: first", x.checks(0, 2), 3);
        int[] snapshots = {0, 4, 12, 12, 44, 44};
        int[] news = {0, 4, 8, 0, 32, 0};
        for (int e = 0; e < 6; e++) {
            DUE.is("16: snapshot " + e, x.snapshot(0, e, 0), snapshots[e]);
            DUE.is("16: news " + e, x.snapshot(0, e, 1), news[e]);
        }
        DUE.is("17: writes", x.writes(0), 44);
        DUE.is("count 7", x.count(7), 6);
    }

    private static void badArguments() {
        TraceTrees x = straight();
        int[] noTrace = {-1, 1, 8, LEAST, MOST};
        for (int t : noTrace) {
            DUE.is("13: no trace", x.trace(t, 0), -2);
            DUE.is("14: no trace", x.entry(t, 0, 0), -2);
            DUE.is("15: no trace", x.checks(t, 0), -2);
            DUE.is("16: no trace", x.snapshot(t, 0, 0), -2);
            DUE.is("17: no trace", x.writes(t), -2);
        }
        int[] noEntry = {-1, 6, 16, LEAST, MOST};
        for (int e : noEntry) {
            DUE.is("14: no entry", x.entry(0, e, 0), -2);
            DUE.is("16: no entry", x.snapshot(0, e, 0), -2);
        }
        DUE.is("13: what", x.trace(0, 5), -2);
        DUE.is("13: what", x.trace(0, -1), -2);
        DUE.is("14: what", x.entry(0, 0, 6), -2);
        DUE.is("14: what", x.entry(0, 0, -1), -2);
        DUE.is("15: what", x.checks(0, 3), -2);
        DUE.is("15: what", x.checks(0, -1), -2);
        DUE.is("16: what", x.snapshot(0, 0, 2), -2);
        DUE.is("16: what", x.snapshot(0, 0, -1), -2);
        DUE.is("18: what", x.better(2), -2);
        DUE.is("18: what", x.better(-1), -2);
    }

    private static void checkOfOneRegisterTwice() {
        TraceTrees x = Due.with(2, 1, 0, 0, 3, 1, 1, 0, 7, 0, 0, 0);
        DUE.is("15: one, not two", x.checks(0, 0), 3);
        DUE.is("15: not known", x.checks(0, 1), 1);
        DUE.is("15: first", x.checks(0, 2), 1);
        x.alter(0, 2, 0, 0, 0);
        DUE.is("15: not known", x.checks(0, 1), 2);
        DUE.is("15: it is written later", x.checks(0, 2), 0);
        x.alter(0, 8, 1, 0, 1);
        DUE.is("15: an ask is no check", x.checks(0, 0), 2);
        DUE.is("15: but makes known", x.checks(0, 1), 1);
    }

    private static void kindsThatNoCodeReads() {
        TraceTrees x = Due.with(0, 0, 2, 3, 7, 0, 2, 3);
        x.load(2, 1, 1);
        x.load(3, 1, 1);
        DUE.is("14: Y of a SET", x.entry(0, 0, 1), 1);
        DUE.is("14: Z of a SET", x.entry(0, 0, 2), 1);
        DUE.is("14: Y of a GO", x.entry(0, 1, 1), 1);
        DUE.is("14: way of a GO", x.entry(0, 1, 3), 0);
        DUE.is("15: none of these is checked", x.checks(0, 0), 0);
        x.alter(0, 8, 1, 2, 3);
        DUE.is("14: way of an ASK", x.entry(0, 0, 3), 0);
        DUE.is("14: its Z", x.entry(0, 0, 2), 1);
    }

    /**
     * The head is 2: the counter goes up to the end, then the way out is taken from an exit;
     * that way meets a jump back that is not to the head, and is dropped.
     */
    private static void branchThatIsDropped() {
        TraceTrees x = Due.with(0, 0, 0, 0, 0, 1, 1, 0, 2, 0, 0, 1, 6, 2, 0, 7, 7, 0, 0, 0);
        x.load(7, 0, 8);
        x.set(1, 2);
        x.set(0, 600);
        DUE.is("trace", x.heat(2, 2), 0);
        DUE.is("no branch", x.count(3), 1);
        DUE.is("exits", x.ends(4), 31);
        DUE.is("hits stay and go on", x.entry(0, 1, 4), 31);
        DUE.is("none", x.entry(0, 1, 5), -1);
        DUE.is("the branch was dropped once, the other head twice", x.ends(5), 3);
        DUE.is("not barred", x.heat(2, 1), 0);
        DUE.is("heat of the head is 0", x.heat(2, 0), 0);
        DUE.is("barred", x.heat(0, 1), 1);
        DUE.is("heat goes on", x.heat(0, 0), 26);
    }

    /** An exit of the outer loop is at the head of a loop that came later: its branch is dropped at once. */
    private static void anotherHeadInABranch() {
        TraceTrees x = Due.with(2, 0, 0, 1, 6, 2, 0, 5, 2, 3, 3, 1, 6, 1, 3, 4, 2, 4, 4, 2, 7, 0, 0, 0);
        x.load(1, 0, 1);
        x.load(2, 0, 4);
        x.load(4, 0, -10);
        x.load(5, 0, 7);
        x.set(1, 2);
        x.set(0, 65);
        int[] ends = {0, 2, 65, 19, 10, 2};
        for (int i = 0; i < ends.length; i++) {
            DUE.is("late: ends " + i, x.ends(i), ends[i]);
        }
        int[][] traces = {{0, -1, -1, 6, 5}, {1, -1, -1, 3, 5}, {1, 1, 0, 3, 2}};
        for (int t = 0; t < 3; t++) {
            for (int i = 0; i < 5; i++) {
                DUE.is("late: trace " + t + " " + i, x.trace(t, i), traces[t][i]);
            }
        }
        DUE.is("late: barred", x.heat(0, 1), 1);
        DUE.is("late: heat", x.heat(0, 0), 0);
        DUE.is("late: heat", x.heat(1, 0), 4);
        DUE.is("late: hits", x.entry(0, 1, 4), 2);
        DUE.is("late: no branch", x.entry(0, 1, 5), -1);
        DUE.is("late: hits", x.entry(1, 0, 4), 4);
        DUE.is("late: branch", x.entry(1, 0, 5), 2);
    }

    private static void better() {
        TraceTrees x = Due.with(7, 0, 0, 0);
        DUE.is("18: which", x.better(0), 2);
        DUE.is("18: how many", x.better(1), 197);
        x.set(1, 9);
        DUE.is("18: whatever hot is", x.better(0), 2);
        DUE.is("18: how many", x.better(1), 197);
        DUE.is("18: hot stays", x.count(2), 9);
        DUE.is("18: the run stays", x.ends(3), 200 - 10);
        x.set(0, 0);
        DUE.is("18: of like ones the least", x.better(0), 2);
        DUE.is("18: none", x.better(1), 0);
    }
}
