import java.util.Arrays;

/** SHEETS, FINDINGS, and promises 19 to 25. */
final class SheetEdges extends Edges {

    SheetEdges(Due due) {
        super(due);
    }

    @Override
    void ask() {
        lostAtFirst();
        formsAndItems();
        findingNumbers();
        findingNull();
        findingIndex();
        findingCast();
        findingStore();
        findingSize();
        sheet();
        lose();
        lay();
        get();
        copy();
        copyWithin();
        write();
        count();
    }

    // ---- terms

    private void lostAtFirst() {
        sentence("SHEETS 0 .. 3 are LOST (at first) or a row of a FORM");
        TraceTrees x = new TraceTrees();
        for (int s = 0; s < 4; s++) {
            is("SHEET " + s, x.lose(s), NULL);
            is("a row", x.sheet(s, BYTES, s + 1), s + 1);
        }
        for (int s = 0; s < 4; s++) {
            is("SHEET " + s, x.lose(s), s + 1);
            is("LOST again", x.lose(s), NULL);
        }
        for (int bad : new int[] {-1, 4}) {
            is("SHEET " + bad, x.lose(bad), BAD);
        }
    }

    private void formsAndItems() {
        sentence("0 bytes, 1 shorts, 2 ints, of 0 to 60 items (0 at first).");
        int[][] most = {{-128, 127}, {-32768, 32767}, {LEAST, MOST}};
        TraceTrees x = new TraceTrees();
        for (int form = BYTES; form <= INTS; form++) {
            is("no items", x.sheet(form, form, 0), 0);
            is("the first of none", x.get(form, form, 0), LEAST);
            is("all items", x.sheet(form, form, 60), 60);
            for (int i = 0; i < 60; i++) {
                is("0 at first", x.get(form, form, i), 0);
            }
            for (int i = 0; i < 2; i++) {
                x.lay(form, form, 59 * i, most[form][i]);
                is("it can hold " + most[form][i], x.get(form, form, 59 * i), most[form][i]);
            }
            is("a new row", x.sheet(form, form, 60), 60);
            is("0 at first again", x.get(form, form, 59), 0);
        }
        is("one too many", x.sheet(3, BYTES, 61), BAD);
        is("no such FORM", x.sheet(3, 3, 5), BAD);
    }

    private void findingNumbers() {
        sentence("FINDINGS (answers -10 less the number; they change nothing but count() 8)");
        TraceTrees x = loopInALoop();
        put(x, 0, BYTES, 7, 8);
        put(x, 1, SHORTS, 9, 10, 11);
        long before = x.digest();
        is("before any", x.count(8), 0);
        int[] numbers = {1, 2, 3, 4, 5, 1};
        int[] answers = {x.lose(3), x.lay(0, BYTES, 2, 5), x.lay(0, INTS, 0, 5), x.copy(0, 0, 1, 0, 1), x.sheet(0, BYTES, -1),
            x.read(2)};
        for (int i = 0; i < numbers.length; i++) {
            is("FINDING " + numbers[i], answers[i], -10 - numbers[i]);
        }
        is("the latest", x.count(8), 1);
        is("nothing else", x.digest(), before);
        items("nothing else", x, 0, BYTES, 7, 8);
        items("nothing else", x, 1, SHORTS, 9, 10, 11);
        is("what is fine makes none", x.sheet(3, BYTES, 3), 3);
        is("the latest stays", x.count(8), 1);
    }

    private void findingNull() {
        sentence("1 NULL: the SHEET is LOST");
        TraceTrees x = with(GO, 0, 0, 0);
        x.sheet(1, BYTES, 4);
        int[] answers = {x.lose(0), x.read(0), x.lay(0, BYTES, 0, 0), x.copy(0, 0, 1, 0, 0), x.copy(1, 0, 0, 0, 0),
            x.write(0, 0)};
        for (int answer : answers) {
            is("NULL", answer, NULL);
        }
        is("count(8)", x.count(8), 1);
        x.sheet(1, BYTES, -1);
        is("get", x.get(0, BYTES, 0), LEAST);
        is("count(8)", x.count(8), 1);
        is("one without items is not LOST", x.sheet(0, BYTES, 0), 0);
        is("read", x.read(0), 0);
        is("write", x.write(0, 0), 0);
        is("copy of none", x.copy(0, 0, 1, 0, 0), 1);
        is("lose", x.lose(0), 0);
    }

    private void findingIndex() {
        sentence("2 INDEX: there is no such item");
        TraceTrees x = new TraceTrees();
        x.sheet(0, SHORTS, 60);
        x.sheet(1, SHORTS, 0);
        for (int bad : new int[] {LEAST, -1, 60, MOST}) {
            is("lay at " + bad, x.lay(0, SHORTS, bad, 1), INDEX);
            is("get at " + bad, x.get(0, SHORTS, bad), LEAST);
            is("count(8)", x.count(8), 2);
        }
        is("none has no first", x.lay(1, SHORTS, 0, 1), INDEX);
        is("the last", x.lay(0, SHORTS, 59, 1), 1);
        is("the first", x.lay(0, SHORTS, 0, 1), 1);
    }

    private void findingCast() {
        sentence("3 CAST: it has another FORM");
        TraceTrees x = new TraceTrees();
        for (int form = BYTES; form <= INTS; form++) {
            x.sheet(0, form, 3);
            for (int as = BYTES; as <= INTS; as++) {
                is("lay " + form + " as " + as, x.lay(0, as, 0, as + 1), form == as ? 1 : CAST);
                is("get " + form + " as " + as, x.get(0, as, 0), form == as ? as + 1 : LEAST);
            }
        }
        is("count(8)", x.count(8), 3);
    }

    private void findingStore() {
        sentence("4 STORE: unlike FORMS");
        TraceTrees x = new TraceTrees();
        for (int form = BYTES; form <= INTS; form++) {
            for (int other = BYTES; other <= INTS; other++) {
                x.sheet(0, form, 3);
                x.sheet(1, other, 3);
                is("copy " + form + " to " + other, x.copy(0, 0, 1, 0, 0), form == other ? 1 : STORE);
            }
        }
        is("count(8)", x.count(8), 4);
    }

    private void findingSize() {
        sentence("5 SIZE: below 0.");
        TraceTrees x = new TraceTrees();
        for (int bad : new int[] {LEAST, -60, -1}) {
            is("of " + bad, x.sheet(0, INTS, bad), SIZE);
        }
        is("count(8)", x.count(8), 5);
        is("it is LOST still", x.lose(0), NULL);
        is("of 0", x.sheet(0, INTS, 0), 0);
    }

    // ---- promises

    private void sheet() {
        sentence("A SHEET is a new row of a FORM with n items: n. BAD: SHEET, FORM, above 60; SIZE.");
        TraceTrees x = new TraceTrees();
        put(x, 2, INTS, 5, 6);
        for (int bad : new int[] {LEAST, -1, 4, MOST}) {
            is("SHEET " + bad, x.sheet(bad, INTS, 5), BAD);
        }
        for (int bad : new int[] {LEAST, -1, 3, MOST}) {
            is("FORM " + bad, x.sheet(2, bad, 5), BAD);
        }
        for (int bad : new int[] {61, MOST}) {
            is("items " + bad, x.sheet(2, INTS, bad), BAD);
        }
        is("no FINDING", x.count(8), 0);
        is("below 0", x.sheet(2, INTS, -1), SIZE);
        items("it is as it was", x, 2, INTS, 5, 6);
        is("the most", x.sheet(2, SHORTS, 60), 60);
        is("of another FORM", x.get(2, SHORTS, 0), 0);
        is("less", x.sheet(2, SHORTS, 1), 1);
        is("the second is gone", x.get(2, SHORTS, 1), LEAST);
        is("the most again", x.sheet(2, SHORTS, 60), 60);
        is("none", x.sheet(2, SHORTS, 0), 0);
        is("how many", x.lose(2), 0);
    }

    private void lose() {
        sentence("It is LOST: how many items it had. BAD; NULL.");
        TraceTrees x = new TraceTrees();
        for (int bad : new int[] {LEAST, -1, 4, MOST}) {
            is("SHEET " + bad, x.lose(bad), BAD);
        }
        is("no FINDING", x.count(8), 0);
        for (int n : new int[] {0, 1, 60}) {
            is("LOST", x.lose(3), NULL);
            x.sheet(3, BYTES, n);
            is("it had", x.lose(3), n);
        }
        is("LOST", x.lose(3), NULL);
        is("a FINDING", x.count(8), 1);
    }

    private void lay() {
        sentence("Item i, treated as of a FORM, becomes v (the lowest bits that it has): 1. BAD; NULL; CAST; INDEX.");
        TraceTrees x = new TraceTrees();
        int[][] cases = {{BYTES, 127, 127}, {BYTES, 128, -128}, {BYTES, 255, -1}, {BYTES, 256, 0}, {BYTES, -129, 127},
            {BYTES, LEAST, 0}, {BYTES, MOST, -1}, {SHORTS, 32767, 32767}, {SHORTS, 32768, -32768}, {SHORTS, 65535, -1},
            {SHORTS, 65536, 0}, {SHORTS, -32769, 32767}, {SHORTS, LEAST, 0}, {SHORTS, MOST, -1}, {INTS, LEAST, LEAST},
            {INTS, MOST, MOST}, {INTS, -1, -1}};
        for (int[] c : cases) {
            x.sheet(0, c[0], 3);
            is("lay " + c[1], x.lay(0, c[0], 1, c[1]), 1);
            items("FORM " + c[0] + " of " + c[1], x, 0, c[0], 0, c[2], 0);
        }
        for (int bad : new int[] {LEAST, -1, 4, MOST}) {
            is("SHEET " + bad, x.lay(bad, INTS, 0, 1), BAD);
        }
        for (int bad : new int[] {LEAST, -1, 3, MOST}) {
            is("FORM " + bad, x.lay(0, bad, 0, 1), BAD);
        }
        is("no FINDING", x.count(8), 0);
        is("LOST", x.lay(1, INTS, 0, 1), NULL);
        is("another FORM", x.lay(0, SHORTS, 0, 1), CAST);
        is("no such item", x.lay(0, INTS, 3, 1), INDEX);
        items("nothing changed", x, 0, INTS, 0, -1, 0);
    }

    private void get() {
        sentence("Item i of it. BAD: the least int; so are NULL, CAST, INDEX (count() 8 tells).");
        TraceTrees x = new TraceTrees();
        put(x, 0, SHORTS, 4, 5, 6);
        is("the first", x.get(0, SHORTS, 0), 4);
        is("the last", x.get(0, SHORTS, 2), 6);
        for (int bad : new int[] {LEAST, -1, 4, MOST}) {
            is("SHEET " + bad, x.get(bad, SHORTS, 0), LEAST);
        }
        for (int bad : new int[] {LEAST, -1, 3, MOST}) {
            is("FORM " + bad, x.get(0, bad, 0), LEAST);
        }
        is("no FINDING", x.count(8), 0);
        is("LOST", x.get(1, SHORTS, 0), LEAST);
        is("it tells", x.count(8), 1);
        is("another FORM", x.get(0, BYTES, 0), LEAST);
        is("it tells", x.count(8), 3);
        is("no such item", x.get(0, SHORTS, 3), LEAST);
        is("it tells", x.count(8), 2);
        put(x, 2, INTS, LEAST);
        is("the least int itself", x.get(2, INTS, 0), LEAST);
        is("is no FINDING", x.count(8), 2);
    }

    private void copy() {
        sentence("n items of SHEET s, from i on, come to SHEET t (perhaps s, as they were), from j on: 1. BAD: the SHEETS; "
                + "NULL: s, t; STORE; INDEX: below 0, not so many.");
        TraceTrees x = new TraceTrees();
        put(x, 0, SHORTS, 1, 2, 3, 4, 5);
        put(x, 1, SHORTS, 10, 11, 12);
        put(x, 2, INTS, 0);
        for (int bad : new int[] {LEAST, -1, 4, MOST}) {
            is("s " + bad, x.copy(bad, 0, 0, 0, 0), BAD);
            is("t " + bad, x.copy(0, 0, bad, 0, 0), BAD);
        }
        is("no FINDING", x.count(8), 0);
        is("s is LOST", x.copy(3, 0, 0, 0, 0), NULL);
        is("t is LOST", x.copy(0, 0, 3, 0, 0), NULL);
        is("both are", x.copy(3, 0, 3, 0, 0), NULL);
        is("unlike", x.copy(0, 0, 2, 0, 0), STORE);
        int[][] bad = {{-1, 0, 1}, {0, -1, 1}, {0, 0, -1}, {5, 0, 1}, {4, 0, 2}, {0, 3, 1}, {0, 2, 2}, {0, 0, 4}, {6, 0, 0},
            {0, 4, 0}, {-1, 0, 0}, {0, -1, 0}, {LEAST, 0, 0}, {0, LEAST, 0}, {0, 0, LEAST}, {MOST, 0, 1}, {0, MOST, 1},
            {0, 0, MOST}, {1, 1, MOST}, {MOST, MOST, MOST}, {2, 0, -1}, {0, 2, -2}};
        for (int[] b : bad) {
            is("from " + b[0] + " to " + b[1] + ", " + b[2], x.copy(0, b[0], 1, b[1], b[2]), INDEX);
        }
        items("nothing changed", x, 1, SHORTS, 10, 11, 12);
        is("none, at the ends", x.copy(0, 5, 1, 3, 0), 1);
        items("nothing changed", x, 1, SHORTS, 10, 11, 12);
        is("up to both ends", x.copy(0, 3, 1, 1, 2), 1);
        items("two came", x, 1, SHORTS, 10, 4, 5);
        is("all of it", x.copy(1, 0, 0, 2, 3), 1);
        items("three came", x, 0, SHORTS, 1, 2, 10, 4, 5);
    }

    private void copyWithin() {
        sentence("(perhaps s, as they were)");
        TraceTrees x = new TraceTrees();
        put(x, 0, BYTES, 1, 2, 3, 4, 5);
        is("to the right", x.copy(0, 0, 0, 1, 4), 1);
        items("to the right", x, 0, BYTES, 1, 1, 2, 3, 4);
        is("to the left", x.copy(0, 1, 0, 0, 4), 1);
        items("to the left", x, 0, BYTES, 1, 2, 3, 4, 4);
        is("to itself", x.copy(0, 0, 0, 0, 5), 1);
        items("to itself", x, 0, BYTES, 1, 2, 3, 4, 4);
        is("one too many", x.copy(0, 0, 0, 1, 5), INDEX);
        items("nothing changed", x, 0, BYTES, 1, 2, 3, 4, 4);
    }

    private void write() {
        sentence("POINTS of the ENTRIES of a TRACE come to a SHEET from item 0 on, as many as there are items, and ENTRIES: "
                + "how many. BAD; NULL.");
        TraceTrees x = with(SET, 0, 1, 0, SET, 0, 2, 0, SET, 0, 3, 0, GO, 1, 0, 0);
        for (int bad : new int[] {LEAST, -1, 1, 8, MOST}) {
            is("TRACE " + bad, x.write(bad, 0), BAD);
        }
        for (int bad : new int[] {LEAST, -1, 4, MOST}) {
            is("SHEET " + bad, x.write(0, bad), BAD);
        }
        is("no FINDING", x.count(8), 0);
        is("LOST", x.write(0, 3), NULL);
        put(x, 0, BYTES, 9, 9, 9, 9);
        is("less ENTRIES", x.write(0, 0), 3);
        items("less ENTRIES", x, 0, BYTES, 1, 2, 3, 9);
        put(x, 1, SHORTS, 9, 9);
        is("less items", x.write(0, 1), 2);
        items("less items", x, 1, SHORTS, 1, 2);
        put(x, 2, INTS, 9, 9, 9);
        is("as many", x.write(0, 2), 3);
        items("as many", x, 2, INTS, 1, 2, 3);
        x.sheet(2, INTS, 0);
        is("no items", x.write(0, 2), 0);
        TraceTrees most = limited(roundOf(16), 200, 2);
        most.sheet(0, BYTES, 60);
        is("sixteen", most.write(0, 0), 16);
        is("the last", most.get(0, BYTES, 15), 15);
        is("behind it", most.get(0, BYTES, 16), 0);
    }

    private void count() {
        sentence("0 how much CODE, 1 LIMIT, 2 HOT, 3 TRACES, 4 STEPS, 5 COMPILED ones, 6 EXITS, 7 ENTRIES of all TRACES, "
                + "8 the number of the latest FINDING (0 before any). BAD.");
        int[] want = {0, 200, 3, 0, 0, 0, 0, 0, 0};
        counts("new", new TraceTrees(), want);
        TraceTrees x = loops(9);
        counts("eight TRACES", x, 18, 200, 2, 8, 90, 24, 8, 16, 0);
        x.sheet(0, BYTES, -1);
        is("a FINDING", x.count(8), 5);
        x.lose(0);
        is("the latest", x.count(8), 1);
        x.lose(9);
        is("BAD is none", x.count(8), 1);
        for (int bad : new int[] {LEAST, -1, 9, MOST}) {
            is("what " + bad, x.count(bad), BAD);
        }
        int[] all = Arrays.copyOf(want, 9);
        TraceTrees full = limited(roundOf(16), 600, 9);
        all[0] = 16;
        all[1] = 600;
        all[2] = 9;
        all[3] = 1;
        all[4] = 600;
        all[5] = 600 - 160;
        all[7] = 16;
        counts("sixteen ENTRIES", full, all);
    }

    private void counts(String name, TraceTrees x, int... want) {
        for (int i = 0; i < want.length; i++) {
            is(name + ": count(" + i + ")", x.count(i), want[i]);
        }
    }
}
