/** Promises 1 to 8: a new object, add, alter, back, code, load, set, read. */
public final class CodeTest {
    private static final int MOST = Integer.MAX_VALUE, LEAST = Integer.MIN_VALUE;
    private static final Due DUE = new Due();

    public static void main(String[] args) {
        newObject();
        add();
        alter();
        back();
        code();
        load();
        set();
        read();
        DUE.end();
    }

    private static void newObject() {
        TraceTrees x = new TraceTrees();
        int[] counts = {0, 200, 3, 0, 0, 0, 0, 0, 0};
        for (int i = 0; i < counts.length; i++) {
            DUE.is("1: count " + i, x.count(i), counts[i]);
        }
        for (int s = 0; s < 4; s++) {
            DUE.is("1: lose " + s, x.lose(s), -11);
        }
        for (int r = 0; r < 8; r++) {
            DUE.is("1: value kind " + r, x.value(r, 0), 0);
            DUE.is("1: value " + r, x.value(r, 1), 0);
        }
    }

    private static void add() {
        TraceTrees x = new TraceTrees();
        int[][] bad = {{-1, 0, 0, 0}, {10, 0, 0, 0}, {0, -1, 0, 0}, {0, 24, 0, 0}, {0, 0, -30001, 0},
            {0, 0, 30001, 0}, {0, 0, 0, -1}, {0, 0, 0, 8}, {MOST, 0, 0, 0}, {0, LEAST, 0, 0}, {0, 0, LEAST, 0},
            {0, 0, 0, MOST}};
        for (int[] b : bad) {
            DUE.is("2: bad add", x.add(b[0], b[1], b[2], b[3]), -2);
        }
        DUE.is("2: nothing came", x.count(0), 0);
        DUE.is("2: least", x.add(0, 0, -30000, 0), 1);
        DUE.is("2: most", x.add(9, 23, 30000, 7), 2);
        for (int i = 3; i <= 24; i++) {
            DUE.is("2: add", x.add(1, 1, 1, 1), i);
        }
        DUE.is("2: full", x.add(1, 1, 1, 1), -4);
        DUE.is("2: bad ahead of full", x.add(10, 1, 1, 1), -2);
        DUE.is("2: count", x.count(0), 24);
    }

    private static void alter() {
        TraceTrees x = Due.with(0, 0, 5, 0, 9, 0, 0, 0);
        DUE.is("3: alter", x.alter(0, 0, 3, 7, 1), 1);
        DUE.is("3: a", x.code(0, 1), 3);
        DUE.is("3: the run is another", x.value(3, 1), 7);
        DUE.is("3: and not the former", x.value(0, 1), 0);
        DUE.is("3: below", x.alter(-1, 0, 0, 0, 0), -2);
        DUE.is("3: where no code is", x.alter(2, 0, 0, 0, 0), -2);
        DUE.is("3: kind", x.alter(0, 10, 0, 0, 0), -2);
        DUE.is("3: a", x.alter(0, 0, 24, 0, 0), -2);
        DUE.is("3: b", x.alter(0, 0, 0, 30001, 0), -2);
        DUE.is("3: c", x.alter(0, 0, 0, 0, 8), -2);
        DUE.is("3: nothing changed", x.code(0, 2), 7);
    }

    private static void back() {
        TraceTrees x = Due.with(0, 0, 5, 0, 0, 0, 6, 0);
        DUE.is("4: value", x.value(0, 1), 6);
        DUE.is("4: back", x.back(), 1);
        DUE.is("4: the run is another", x.value(0, 1), 5);
        DUE.is("4: code is gone", x.code(1, 0), LEAST);
        DUE.is("4: back", x.back(), 0);
        DUE.is("4: none", x.back(), -3);
        DUE.is("4: add after it", x.add(0, 0, 1, 0), 1);
    }

    private static void code() {
        TraceTrees x = Due.with(6, 23, -30000, 7);
        int[] due = {6, 23, -30000, 7};
        for (int i = 0; i < 4; i++) {
            DUE.is("5: code", x.code(0, i), due[i]);
        }
        DUE.is("5: what", x.code(0, 4), LEAST);
        DUE.is("5: what", x.code(0, -1), LEAST);
        DUE.is("5: point", x.code(1, 0), LEAST);
        DUE.is("5: point", x.code(-1, 0), LEAST);
        DUE.is("5: point", x.code(MOST, 0), LEAST);
    }

    private static void load() {
        TraceTrees x = new TraceTrees();
        int[] all = {0, 1, -1, 3, 16777217, 16777219, MOST, LEAST, MOST - 64, -16777219, 123456789};
        for (int v : all) {
            DUE.is("6: load", x.load(7, 0, v), 1);
            DUE.is("6: kind", x.value(7, 0), 0);
            DUE.is("6: whole", x.value(7, 1), v);
            DUE.is("6: load", x.load(0, 1, v), 1);
            DUE.is("6: kind", x.value(0, 0), 1);
            DUE.is("6: float " + v, x.value(0, 1), Float.floatToIntBits((float) v * 0.25f));
        }
        DUE.is("6: register", x.load(8, 0, 0), -2);
        DUE.is("6: register", x.load(-1, 0, 0), -2);
        DUE.is("6: kind", x.load(0, 2, 0), -2);
        DUE.is("6: kind", x.load(0, -1, 0), -2);
        DUE.is("6: nothing changed", x.value(0, 1), Float.floatToIntBits(123456789f * 0.25f));
        DUE.is("6: a run leaves what is loaded", Due.with(0, 0, 1, 0).value(0, 1), 1);
    }

    private static void set() {
        TraceTrees x = new TraceTrees();
        DUE.is("7: limit", x.set(0, 0), 200);
        DUE.is("7: limit", x.set(0, 600), 0);
        DUE.is("7: above", x.set(0, 601), -2);
        DUE.is("7: below", x.set(0, -1), -2);
        DUE.is("7: it stayed", x.count(1), 600);
        DUE.is("7: hot", x.set(1, 2), 3);
        DUE.is("7: hot", x.set(1, 9), 2);
        DUE.is("7: above", x.set(1, 10), -2);
        DUE.is("7: below", x.set(1, 1), -2);
        DUE.is("7: it stayed", x.count(2), 9);
        DUE.is("7: what", x.set(2, 5), -2);
        DUE.is("7: what", x.set(-1, 5), -2);
    }

    private static void put(TraceTrees x, int s, int form, int... items) {
        x.sheet(s, form, items.length);
        for (int i = 0; i < items.length; i++) {
            DUE.is("8: lay", x.lay(s, form, i, items[i]), 1);
        }
    }

    private static void read() {
        TraceTrees x = Due.with(9, 0, 0, 0);
        DUE.is("8: no such sheet", x.read(-1), -2);
        DUE.is("8: no such sheet", x.read(4), -2);
        DUE.is("8: lost", x.read(3), -11);
        DUE.is("8: finding", x.count(8), 1);
        put(x, 3, 1, 0, 1, 30000, 2, 9, 23, -30000, 7, 1, 2, 3);
        DUE.is("8: two are whole", x.read(3), 2);
        DUE.is("8: behind the other", x.count(0), 3);
        DUE.is("8: b", x.code(1, 2), 30000);
        DUE.is("8: c", x.code(2, 3), 7);
        put(x, 0, 2, 0, 0, 0, 0, 0, 24, 0, 0, 0, 0, 0, 0);
        DUE.is("8: up to the bad one", x.read(0), 1);
        int[][] bad = {{10, 0, 0, 0}, {-1, 0, 0, 0}, {0, -1, 0, 0}, {0, 0, 30001, 0}, {0, 0, -30001, 0},
            {0, 0, 0, 8}, {0, 0, 0, -1}};
        for (int[] b : bad) {
            put(x, 0, 2, b);
            DUE.is("8: the first may not be", x.read(0), 0);
        }
        put(x, 0, 0, 0, 0, 0);
        DUE.is("8: none is whole", x.read(0), 0);
        put(x, 0, 0);
        DUE.is("8: an empty one", x.read(0), 0);
        DUE.is("8: count", x.count(0), 4);
        x.sheet(2, 0, 60);
        DUE.is("8: fifteen", x.read(2), 15);
        DUE.is("8: as long as there is room", x.read(2), 5);
        DUE.is("8: count", x.count(0), 24);
        DUE.is("8: none more", x.read(2), 0);
    }
}
