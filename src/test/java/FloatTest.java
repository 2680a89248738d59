import java.util.Random;

/** What the class computes with FLOATS is bit for bit what Java computes with floats. */
public final class FloatTest {
    private static final int CASES = 120000;
    private static final Due DUE = new Due();

    public static void main(String[] args) {
        Random random = new Random(5);
        for (int i = 0; i < CASES; i++) {
            compare(random, i);
        }
        withoutEnd();
        DUE.end();
    }

    private static int number(Random random) {
        switch (random.nextInt(6)) {
            case 0: return random.nextInt();
            case 1: return random.nextInt(9) - 4;
            case 2: return 1 << random.nextInt(32);
            case 3: return (1 << random.nextInt(32)) + random.nextInt(5) - 2;
            case 4: return random.nextInt() >> random.nextInt(32);
            default: return -(1 << random.nextInt(32)) + random.nextInt(5) - 2;
        }
    }

    /**
     * Registers 2 and 3 are squared a few times and scale 0 and 1, so that these come to be of
     * every size, the least ones and those without end too; then everything is done to both.
     */
    private static void compare(Random random, int which) {
        TraceTrees x = new TraceTrees();
        float[] f = new float[4];
        for (int r = 0; r < 4; r++) {
            int v = r >= 2 && random.nextInt(2) == 0 ? random.nextInt(7) - 3 : number(random);
            x.load(r, 1, v);
            f[r] = (float) v * 0.25f;
        }
        for (int r = 2; r < 4; r++) {
            for (int i = random.nextInt(7); i > 0; i--) {
                x.add(4, r, r, r);
                f[r] = f[r] * f[r];
            }
        }
        x.add(4, 0, 0, 2);
        x.add(4, 1, 1, 3);
        float p = f[0] * f[2];
        float q = f[1] * f[3];
        int point = x.add(2, 4, 0, 1);
        x.add(3, 5, 0, 1);
        x.add(4, 6, 0, 1);
        x.add(5, 7, 0, 0);
        x.add(6, point + 6, 0, 1);
        x.add(0, 2, 0, 0);
        x.add(9, 0, 0, 0);
        float[] due = {p, q, 0, 0, p + q, p - q, p * q, p * 0.5f};
        for (int r = 0; r < 8; r++) {
            if (r != 2 && r != 3) {
                DUE.is("case " + which + ", register " + r, x.value(r, 1), Float.floatToIntBits(due[r]));
            }
        }
        DUE.is("case " + which + ", less", x.ends(1), p < q ? point + 6 : point + 5);
    }

    /** A float that has no end less itself, and one times 0, is NaN, which is less than nothing. */
    private static void withoutEnd() {
        TraceTrees x = Due.with(4, 0, 0, 0, 4, 0, 0, 0, 4, 0, 0, 0, 3, 1, 0, 0, 4, 2, 0, 7, 6, 23, 1, 0, 6, 23, 0, 1,
                6, 23, 1, 1, 5, 3, 0, 1, 2, 4, 1, 0, 3, 5, 7, 0, 9, 0, 0, 0);
        x.load(0, 0, Integer.MAX_VALUE);
        int nan = Float.floatToIntBits(Float.NaN);
        int[] due = {Float.floatToIntBits(Float.POSITIVE_INFINITY), nan, nan, nan, nan,
            Float.floatToIntBits(Float.NEGATIVE_INFINITY)};
        for (int r = 0; r < due.length; r++) {
            DUE.is("without end, register " + r, x.value(r, 1), due[r]);
            DUE.is("without end, register " + r, x.plain(r, 1), due[r]);
        }
        DUE.is("no less jumped", x.ends(1), 11);
    }
}
