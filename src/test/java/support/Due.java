/** Counts the answers that are not as due, prints each of them, and ends the test with what came out. */
final class Due {
    static final int LEAST = Integer.MIN_VALUE;
    private static final int MOST_PRINTED = 30;

    private int asked;
    private int wrong;

    void is(String call, long got, long want) {
        asked++;
        if (got != want) {
            wrong++;
            if (wrong <= MOST_PRINTED) {
                System.out.println(call + " answered " + got + ", due is " + want);
            }
        }
    }

    void holds(String what, boolean it) {
        is(what, it ? 1 : 0, 1);
    }

    void end() {
        System.out.println(wrong == 0 ? asked + " answers are as due" : wrong + " answers are not as due");
        if (wrong != 0 || asked == 0) {
            System.exit(1);
        }
    }

    /** A new object with the codes given, four numbers each. */
    static TraceTrees with(int... codes) {
        TraceTrees x = new TraceTrees();
        for (int i = 0; i + 3 < codes.length; i += 4) {
            if (x.add(codes[i], codes[i + 1], codes[i + 2], codes[i + 3]) != i / 4 + 1) {
                throw new IllegalStateException("code " + i / 4 + " was refused");
            }
        }
        return x;
    }
}
