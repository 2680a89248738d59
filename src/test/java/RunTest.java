/** Promises 9 to 12: value, plain, ends, heat. */
public final class RunTest {
    private static final int MOST = Integer.MAX_VALUE, LEAST = Integer.MIN_VALUE;
    private static final Due DUE = new Due();

    public static void main(String[] args) {
        values();
        overflow();
        negativeRegisterNumbers();
        badArguments();
        howItEnds();
        limitAndRecording();
        sixteenEntries();
        seventeenEntries();
        headThatIsInterpreted();
        recordingThatMeetsTheEnd();
        DUE.end();
    }

    private static void ends(String name, TraceTrees x, int... due) {
        for (int i = 0; i < due.length; i++) {
            DUE.is(name + ": ends " + i, x.ends(i), due[i]);
        }
    }

    private static void both(String name, TraceTrees x, int register, int kind, int bits) {
        DUE.is("9: " + name + ", kind", x.value(register, 0), kind);
        DUE.is("9: " + name, x.value(register, 1), bits);
        DUE.is("10: " + name + ", kind", x.plain(register, 0), kind);
        DUE.is("10: " + name, x.plain(register, 1), bits);
    }

    private static void values() {
        TraceTrees x = Due.with(0, 8, -30000, 0, 0, 9, 7, 0, 1, 2, 0, 0, 2, 3, 0, 1, 3, 4, 0, 1, 4, 5, 0, 1,
                5, 6, 0, 0, 5, 7, 0, 1);
        both("set", x, 0, 0, -30000);
        both("copy", x, 2, 0, -30000);
        both("add", x, 3, 0, -29993);
        both("sub", x, 4, 0, -30007);
        both("mul", x, 5, 0, -210000);
        both("half of an even one", x, 6, 0, -15000);
        both("half of an odd one", x, 7, 1, Float.floatToIntBits(3.5f));
    }

    private static void overflow() {
        TraceTrees x = Due.with(2, 2, 0, 1, 3, 3, 1, 0, 4, 4, 0, 0, 4, 5, 1, 1, 5, 6, 0, 0, 5, 7, 0, 1);
        x.load(0, 0, MOST);
        x.load(1, 0, LEAST);
        both("most and least", x, 2, 0, -1);
        both("least less most", x, 3, 1, Float.floatToIntBits((float) ((long) LEAST - MOST)));
        both("square of most", x, 4, 1, Float.floatToIntBits((float) ((long) MOST * MOST)));
        both("square of least", x, 5, 1, Float.floatToIntBits((float) ((long) LEAST * LEAST)));
        both("half of most", x, 6, 1, Float.floatToIntBits((float) MOST * 0.5f));
        both("half of least", x, 7, 0, LEAST / 2);
    }

    private static void negativeRegisterNumbers() {
        TraceTrees x = Due.with(2, 17, -1, 7, 2, 23, -30000, 7);
        x.load(7, 0, 21);
        x.load(0, 0, 100);
        both("register -1 is 7, 17 is 1", x, 1, 0, 42);
        both("register -30000 is 0, 23 is 7", x, 7, 0, 121);
    }

    private static void badArguments() {
        TraceTrees x = Due.with(0, 0, 1, 0);
        int[][] bad = {{-1, 0}, {8, 0}, {0, -1}, {0, 2}, {LEAST, 1}, {MOST, 1}};
        for (int[] b : bad) {
            DUE.is("9: bad", x.value(b[0], b[1]), LEAST);
            DUE.is("10: bad", x.plain(b[0], b[1]), LEAST);
        }
        DUE.is("11: bad", x.ends(-1), -2);
        DUE.is("11: bad", x.ends(6), -2);
        DUE.is("12: bad", x.heat(-1, 0), -2);
        DUE.is("12: bad", x.heat(24, 0), -2);
        DUE.is("12: bad", x.heat(0, -1), -2);
        DUE.is("12: bad", x.heat(0, 3), -2);
        DUE.is("12: no code is needed", x.heat(23, 0), 0);
        DUE.is("12: none", x.heat(23, 2), -1);
    }

    private static void howItEnds() {
        ends("no code", new TraceTrees(), 2, 0, 0, 0, 0, 0);
        ends("falls off", Due.with(0, 0, 1, 0, 0, 1, 1, 0), 2, 2, 2, 0, 0, 0);
        ends("jumps off", Due.with(7, 23, 0, 0), 2, 23, 1, 0, 0, 0);
        ends("stop", Due.with(0, 0, 1, 0, 9, 0, 0, 0, 0, 0, 2, 0), 1, 1, 2, 0, 0, 0);
        TraceTrees x = Due.with(0, 0, 1, 0, 9, 0, 0, 0);
        x.set(0, 0);
        ends("limit 0", x, 0, 0, 0, 0, 0, 0);
        x.set(0, 1);
        ends("limit 1", x, 0, 1, 1, 0, 0, 0);
        x.set(0, 2);
        ends("stop just at the limit", x, 1, 1, 2, 0, 0, 0);
        x.back();
        x.set(0, 1);
        ends("where no code is, just at the limit", x, 2, 1, 1, 0, 0, 0);
        x.back();
        x.set(0, 0);
        ends("no code, limit 0", x, 2, 0, 0, 0, 0, 0);
    }

    private static void limitAndRecording() {
        TraceTrees x = Due.with(7, 0, 0, 0);
        x.set(1, 2);
        x.set(0, 1);
        ends("not hot yet", x, 0, 0, 1, 0, 0, 0);
        DUE.is("heat", x.heat(0, 0), 1);
        x.set(0, 2);
        ends("recording begins where the limit is", x, 0, 0, 2, 0, 0, 1);
        DUE.is("heat", x.heat(0, 0), 0);
        x.set(0, 3);
        ends("the head is next, but no step", x, 0, 0, 3, 0, 0, 1);
        DUE.is("no trace", x.count(3), 0);
        x.set(0, 4);
        ends("one is compiled", x, 0, 0, 4, 1, 0, 0);
        DUE.is("heat", x.heat(0, 0), 2);
        DUE.is("trace", x.heat(0, 2), 0);
        DUE.is("begun", x.trace(0, 4), 2);
    }

    private static TraceTrees roundOf(int many) {
        TraceTrees x = new TraceTrees();
        for (int i = 0; i < many - 1; i++) {
            x.add(0, i % 8, i, 0);
        }
        x.add(7, 0, 0, 0);
        x.set(0, 600);
        x.set(1, 2);
        return x;
    }

    private static void sixteenEntries() {
        TraceTrees x = roundOf(16);
        ends("sixteen", x, 0, 600 % 16, 600, 600 - 3 * 16, 0, 0);
        DUE.is("sixteen entries", x.trace(0, 3), 16);
    }

    private static void seventeenEntries() {
        TraceTrees x = roundOf(17);
        ends("seventeen", x, 0, 5, 600, 0, 0, 2);
        DUE.is("barred", x.heat(0, 1), 1);
        DUE.is("heat goes on", x.heat(0, 0), 31);
        DUE.is("no trace", x.heat(0, 2), -1);
    }

    /** Wholes up to the most, floats from there on: an exit at the head, interpreted; then a branch at the head. */
    private static void headThatIsInterpreted() {
        TraceTrees x = Due.with(2, 0, 0, 1, 7, 0, 0, 0);
        x.load(0, 0, MOST - 5);
        x.load(1, 0, 1);
        x.set(1, 2);
        x.set(0, 20);
        ends("head", x, 0, 0, 20, 10, 5, 0);
        both("head", x, 0, 1, Float.floatToIntBits(2147483648f));
        DUE.is("heat", x.heat(0, 0), 3);
        DUE.is("begun", x.trace(0, 4), 8);
        DUE.is("hits", x.entry(0, 0, 4), 5);
        DUE.is("branch", x.entry(0, 0, 5), 1);
        DUE.is("its stem", x.trace(1, 1), 0);
        DUE.is("its entry", x.trace(1, 2), 0);
        DUE.is("its head", x.trace(1, 0), 0);
        DUE.is("begun", x.trace(1, 4), 3);
        DUE.is("kind of Y", x.entry(1, 0, 1), 1);
        DUE.is("kind of Z", x.entry(1, 0, 2), 0);
        DUE.is("way", x.entry(1, 0, 3), 1);
        DUE.is("heat tells no branch", x.heat(0, 2), 0);
    }

    private static void recordingThatMeetsTheEnd() {
        TraceTrees x = Due.with(2, 0, 0, 1, 6, 0, 0, 2);
        x.load(1, 0, 1);
        x.load(2, 0, 3);
        x.set(1, 2);
        ends("where no code is", x, 2, 2, 6, 0, 0, 1);
        DUE.is("heat", x.heat(0, 0), 0);
        DUE.is("not barred", x.heat(0, 1), 0);
        x.add(9, 0, 0, 0);
        ends("stop", x, 1, 2, 7, 0, 0, 1);
        x.load(2, 0, 4);
        ends("one round more", x, 1, 2, 9, 1, 1, 0);
        DUE.is("hits", x.entry(0, 1, 4), 1);
    }
}
