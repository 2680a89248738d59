/** Promise 26: the digest is made of the other answers, in the order that the document tells. */
public final class DigestTest {
    private static long h;

    public static void main(String[] args) {
        Due due = new Due();
        TraceTrees x = new TraceTrees();
        due.is("26: a new object", x.digest(), slow(x));
        TraceTrees y = Due.with(0, 0, 0, 0, 0, 1, 1, 0, 0, 4, 20, 0, 2, 2, 2, 0, 5, 3, 0, 2, 8, 7, 0, 3, 2, 5, 5, 1,
                2, 0, 0, 1, 6, 3, 0, 4);
        due.is("26: with a branch", y.count(3), 2);
        due.is("26: with a branch", y.digest(), slow(y));
        long before = y.digest();
        due.is("26: a finding", y.lose(0), -11);
        due.is("26: does not count", y.digest(), before);
        y.sheet(0, 0, 9);
        due.is("26: nor do sheets", y.digest(), before);
        due.is("26: asked alone", fresh().digest(), slow(fresh()));
        y.load(7, 1, 3);
        due.holds("26: another value, another digest", y.digest() != before);
        due.is("26: digest", y.digest(), slow(y));
        due.end();
    }

    private static TraceTrees fresh() {
        TraceTrees x = Due.with(2, 0, 0, 1, 7, 0, 0, 0);
        x.load(1, 1, -3);
        return x;
    }

    private static void mix(int v) {
        h = 31 * h + v;
    }

    private static long slow(TraceTrees x) {
        h = 17;
        for (int i = 0; i <= 7; i++) {
            mix(x.count(i));
        }
        for (int i = 0; i <= 5; i++) {
            mix(x.ends(i));
        }
        for (int r = 0; r <= 7; r++) {
            mix(x.value(r, 0));
            mix(x.value(r, 1));
            mix(x.plain(r, 0));
            mix(x.plain(r, 1));
        }
        for (int p = 0; p <= 23; p++) {
            for (int i = 0; i <= 3; i++) {
                mix(x.code(p, i));
            }
            for (int i = 0; i <= 2; i++) {
                mix(x.heat(p, i));
            }
        }
        for (int t = 0; t <= 7; t++) {
            traceOf(x, t);
        }
        mix(x.better(0));
        mix(x.better(1));
        return h;
    }

    private static void traceOf(TraceTrees x, int t) {
        for (int i = 0; i <= 4; i++) {
            mix(x.trace(t, i));
        }
        for (int i = 0; i <= 2; i++) {
            mix(x.checks(t, i));
        }
        mix(x.writes(t));
        for (int e = 0; e <= 15; e++) {
            for (int i = 0; i <= 5; i++) {
                mix(x.entry(t, e, i));
            }
            mix(x.snapshot(t, e, 0));
            mix(x.snapshot(t, e, 1));
        }
    }
}
