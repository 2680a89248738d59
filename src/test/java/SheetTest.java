/** Promises 19 to 25: sheet, lose, lay, get, copy, write, count. */
public final class SheetTest {
    private static final int MOST = Integer.MAX_VALUE, LEAST = Integer.MIN_VALUE;
    private static final Due DUE = new Due();

    public static void main(String[] args) {
        sheet();
        lose();
        layAndGet();
        copy();
        copyWithin();
        write();
        count();
        DUE.end();
    }

    private static void sheet() {
        TraceTrees x = new TraceTrees();
        DUE.is("19: sheet", x.sheet(-1, 0, 1), -2);
        DUE.is("19: sheet", x.sheet(4, 0, 1), -2);
        DUE.is("19: form", x.sheet(0, -1, 1), -2);
        DUE.is("19: form", x.sheet(0, 3, 1), -2);
        DUE.is("19: above", x.sheet(0, 0, 61), -2);
        DUE.is("19: above", x.sheet(0, 0, MOST), -2);
        DUE.is("19: bad ahead of size", x.sheet(0, 3, -1), -2);
        DUE.is("19: no finding", x.count(8), 0);
        DUE.is("19: size", x.sheet(0, 0, -1), -15);
        DUE.is("19: finding", x.count(8), 5);
        DUE.is("19: size", x.sheet(0, 0, LEAST), -15);
        DUE.is("19: it is lost still", x.lose(0), -11);
        DUE.is("19: none", x.sheet(0, 2, 0), 0);
        DUE.is("19: sixty", x.sheet(3, 2, 60), 60);
        DUE.is("19: lay", x.lay(3, 2, 59, 5), 1);
        DUE.is("19: a new row", x.sheet(3, 2, 60), 60);
        DUE.is("19: 0 at first", x.get(3, 2, 59), 0);
        DUE.is("19: shorter", x.sheet(3, 0, 2), 2);
        DUE.is("19: refused", x.sheet(3, 0, -5), -15);
        DUE.is("19: the former stays", x.lose(3), 2);
    }

    private static void lose() {
        TraceTrees x = new TraceTrees();
        DUE.is("20: bad", x.lose(-1), -2);
        DUE.is("20: bad", x.lose(4), -2);
        DUE.is("20: null", x.lose(2), -11);
        DUE.is("20: finding", x.count(8), 1);
        x.sheet(2, 1, 33);
        DUE.is("20: how many", x.lose(2), 33);
        DUE.is("20: null", x.lose(2), -11);
    }

    private static void layAndGet() {
        TraceTrees x = new TraceTrees();
        DUE.is("21: sheet", x.lay(4, 0, 0, 0), -2);
        DUE.is("21: form", x.lay(0, 3, 0, 0), -2);
        DUE.is("22: sheet", x.get(-1, 0, 0), LEAST);
        DUE.is("22: form", x.get(0, -1, 0), LEAST);
        DUE.is("22: no finding", x.count(8), 0);
        DUE.is("21: null", x.lay(0, 0, 0, 0), -11);
        x.sheet(1, 1, 3);
        DUE.is("21: cast", x.lay(1, 2, 9, 0), -13);
        DUE.is("21: index", x.lay(1, 1, 3, 0), -12);
        DUE.is("21: index", x.lay(1, 1, -1, 0), -12);
        DUE.is("22: null", x.get(0, 0, 0), LEAST);
        DUE.is("22: finding", x.count(8), 1);
        DUE.is("22: cast", x.get(1, 0, 9), LEAST);
        DUE.is("22: finding", x.count(8), 3);
        DUE.is("22: index", x.get(1, 1, 3), LEAST);
        DUE.is("22: finding", x.count(8), 2);
        int[] some = {0, 1, -1, 127, 128, -129, 255, 32767, 32768, -32769, 65536, MOST, LEAST};
        for (int form = 0; form < 3; form++) {
            x.sheet(2, form, 2);
            for (int v : some) {
                DUE.is("21: lay", x.lay(2, form, 1, v), 1);
                int due = form == 0 ? (byte) v : form == 1 ? (short) v : v;
                DUE.is("22: get " + v + " of form " + form, x.get(2, form, 1), due);
                DUE.is("22: its neighbour", x.get(2, form, 0), 0);
            }
        }
        DUE.is("22: what is fine makes no finding", x.count(8), 2);
    }

    private static void row(TraceTrees x, int s, int form, int n) {
        x.sheet(s, form, n);
        for (int i = 0; i < n; i++) {
            x.lay(s, form, i, 10 * s + i);
        }
    }

    private static void items(String name, TraceTrees x, int s, int form, int... due) {
        for (int i = 0; i < due.length; i++) {
            DUE.is(name + " " + i, x.get(s, form, i), due[i]);
        }
    }

    private static void copy() {
        TraceTrees x = new TraceTrees();
        row(x, 0, 1, 5);
        row(x, 1, 1, 3);
        row(x, 2, 2, 5);
        DUE.is("23: s", x.copy(4, 0, 0, 0, 0), -2);
        DUE.is("23: t", x.copy(0, 0, -1, 0, 0), -2);
        DUE.is("23: s lost", x.copy(3, 0, 0, 0, 1), -11);
        DUE.is("23: t lost", x.copy(2, 0, 3, 0, 1), -11);
        DUE.is("23: store ahead of index", x.copy(0, 9, 2, 9, 9), -14);
        DUE.is("23: finding", x.count(8), 4);
        int[][] bad = {{-1, 0, 1}, {0, -1, 1}, {0, 0, -1}, {0, 0, 4}, {3, 0, 3}, {0, 2, 2}, {6, 0, 0}, {0, 4, 0},
            {MOST, 0, 1}, {1, 0, MOST}, {0, MOST, MOST}, {LEAST, 0, MOST}};
        for (int[] b : bad) {
            DUE.is("23: index " + b[0] + " " + b[1] + " " + b[2], x.copy(0, b[0], 1, b[1], b[2]), -12);
        }
        items("23: nothing changed", x, 1, 1, 10, 11, 12);
        DUE.is("23: none, from the end on", x.copy(0, 5, 1, 3, 0), 1);
        DUE.is("23: copy", x.copy(0, 3, 1, 1, 2), 1);
        items("23: copied", x, 1, 1, 10, 3, 4);
        items("23: from there", x, 0, 1, 0, 1, 2, 3, 4);
    }

    private static void copyWithin() {
        TraceTrees x = new TraceTrees();
        row(x, 0, 0, 6);
        DUE.is("23: to the right", x.copy(0, 0, 0, 1, 5), 1);
        items("23: as they were", x, 0, 0, 0, 0, 1, 2, 3, 4);
        row(x, 0, 0, 6);
        DUE.is("23: to the left", x.copy(0, 1, 0, 0, 5), 1);
        items("23: as they were", x, 0, 0, 1, 2, 3, 4, 5, 5);
    }

    private static void write() {
        TraceTrees x = Due.with(0, 0, 1, 0, 0, 1, 1, 0, 0, 2, 1, 0, 7, 1, 0, 0);
        DUE.is("24: a trace", x.count(3), 1);
        DUE.is("24: no trace", x.write(1, 0), -2);
        DUE.is("24: no trace", x.write(-1, 0), -2);
        DUE.is("24: no sheet", x.write(0, 4), -2);
        DUE.is("24: no sheet", x.write(0, -1), -2);
        DUE.is("24: lost", x.write(0, 0), -11);
        row(x, 0, 0, 5);
        DUE.is("24: all entries", x.write(0, 0), 3);
        items("24: the rest stays", x, 0, 0, 1, 2, 3, 3, 4);
        row(x, 1, 2, 2);
        DUE.is("24: all items", x.write(0, 1), 2);
        items("24: items", x, 1, 2, 1, 2);
        x.sheet(2, 1, 0);
        DUE.is("24: none", x.write(0, 2), 0);
    }

    private static void count() {
        TraceTrees x = Due.with(0, 0, 1, 0, 2, 1, 1, 0, 6, 1, 1, 7, 9, 0, 0, 0);
        x.load(7, 0, 50);
        x.set(0, 300);
        x.set(1, 4);
        int[] due = {4, 300, 4, 1, 102, 90 - 1, 1, 2, 0};
        for (int i = 0; i < due.length; i++) {
            DUE.is("25: count " + i, x.count(i), due[i]);
        }
        DUE.is("25: steps", x.count(4), x.ends(2));
        DUE.is("25: bad", x.count(-1), -2);
        DUE.is("25: bad", x.count(9), -2);
        x.lose(0);
        x.sheet(0, 0, 5);
        DUE.is("25: the latest finding stays", x.count(8), 1);
    }
}
