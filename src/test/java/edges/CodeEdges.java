/** CODE, what each KIND does, and promises 1 to 8. */
final class CodeEdges extends Edges {

    CodeEdges(Due due) {
        super(due);
    }

    @Override
    void ask() {
        mostCode();
        numbersOfACode();
        registerX();
        registerY();
        registerZ();
        set();
        copy();
        twoOfThem();
        halve();
        less();
        go();
        askForAWhole();
        stop();
        whereNoCodeIs();
        newObject();
        add();
        alter();
        back();
        code();
        load();
        setLimits();
        read();
    }

    private void mostCode() {
        sentence("CODE, 24 at most, is at POINTS 0 on");
        TraceTrees x = new TraceTrees();
        for (int i = 1; i <= 24; i++) {
            is("add", x.add(SET, 0, i, 0), i);
        }
        is("a twenty-fifth", x.add(SET, 0, 25, 0), FULL);
        is("how much", x.count(0), 24);
        is("the first", x.code(0, 2), 1);
        is("the last", x.code(23, 2), 24);
        is("ahead of the first", x.code(-1, 2), LEAST);
        is("behind the last", x.code(24, 2), LEAST);
    }

    private void numbersOfACode() {
        sentence("each is a KIND, a (0 to 23), b (-30000 to 30000), c (0 to 7)");
        int[] least = {0, 0, -30000, 0};
        int[] most = {9, 23, 30000, 7};
        for (int part = 0; part < 4; part++) {
            for (int v : new int[] {least[part], least[part] + 1, most[part] - 1, most[part]}) {
                maybe(part, v, true);
            }
            for (int v : new int[] {LEAST, least[part] - 1, most[part] + 1, MOST}) {
                maybe(part, v, false);
            }
        }
    }

    /** A code with one number given and the others in order, by each of the calls that take one. */
    private void maybe(int part, int v, boolean fine) {
        int[] code = {1, 1, 1, 1};
        code[part] = v;
        TraceTrees x = with(GO, 2, 3, 4);
        String name = "part " + part + " as " + v;
        is(name + " by add", x.add(code[0], code[1], code[2], code[3]), fine ? 2 : BAD);
        is(name + " by add, then", x.code(1, part), fine ? v : LEAST);
        is(name + " by alter", x.alter(0, code[0], code[1], code[2], code[3]), fine ? 1 : BAD);
        is(name + " by alter, then", x.code(0, part), fine ? v : new int[] {GO, 2, 3, 4}[part]);
        put(x, 0, INTS, code);
        is(name + " by read", x.read(0), fine ? 1 : 0);
        is(name + " by read, then", x.count(0), fine ? 3 : 1);
    }

    private void registerX() {
        sentence("X is REGISTER a modulo 8");
        for (int a = 0; a < 24; a++) {
            TraceTrees x = with(SET, a, 77, 0);
            for (int r = 0; r < 8; r++) {
                is("SET with a " + a + ", register " + r, x.value(r, 1), r == a % 8 ? 77 : 0);
            }
        }
    }

    private void registerY() {
        sentence("Y is REGISTER b modulo 8 (from 0 on)");
        int[][] cases = {{-30000, 0}, {-29999, 1}, {-9, 7}, {-8, 0}, {-7, 1}, {-1, 7}, {0, 0}, {7, 7}, {8, 0}, {15, 7},
            {29999, 7}, {30000, 0}};
        for (int[] c : cases) {
            TraceTrees x = with(SUB, 4, c[0], 4);
            for (int r = 0; r < 8; r++) {
                x.load(r, WHOLE, 10 * r + 10);
            }
            is("SUB with b " + c[0], x.value(4, 1), 10 * c[1] + 10 - 50);
        }
    }

    private void registerZ() {
        sentence("Z is REGISTER c");
        for (int c = 0; c < 8; c++) {
            TraceTrees x = with(COPY, 4, 5, c);
            for (int r = 0; r < 8; r++) {
                x.load(r, WHOLE, 10 * r + 10);
            }
            is("COPY with c " + c, x.value(4, 1), 10 * c + 10);
        }
    }

    private void set() {
        sentence("0 SET: X becomes the WHOLE b");
        for (int b : new int[] {-30000, -1, 0, 30000}) {
            TraceTrees x = with(SET, 2, b, 0);
            register("a WHOLE before", x, 2, WHOLE, b);
            x.load(2, FLOAT, 5);
            register("a FLOAT before", x, 2, WHOLE, b);
        }
    }

    private void copy() {
        sentence("1 COPY: X becomes what Z is");
        TraceTrees x = with(COPY, 2, 0, 3, COPY, 4, 0, 5, COPY, 6, 0, 6);
        x.load(2, FLOAT, 1);
        x.load(3, WHOLE, LEAST);
        x.load(5, FLOAT, 7);
        x.load(6, FLOAT, -9);
        register("a WHOLE", x, 2, WHOLE, LEAST);
        register("a FLOAT", x, 4, FLOAT, bits(1.75f));
        register("itself", x, 6, FLOAT, bits(-2.25f));
        register("Z stays", x, 5, FLOAT, bits(1.75f));
    }

    private void twoOfThem() {
        sentence("2 ADD, 3 SUB, 4 MUL: X becomes Y and Z added, Z taken away from Y, both multiplied");
        int[][] cases = {{ADD, 4, 18}, {SUB, 10, 0}, {MUL, -21, 81}};
        for (int[] c : cases) {
            TraceTrees x = with(c[0], 2, 0, 1, c[0], 3, 3, 3);
            x.load(0, WHOLE, 7);
            x.load(1, WHOLE, -3);
            x.load(3, WHOLE, 9);
            register("KIND " + c[0], x, 2, WHOLE, c[1]);
            register("X, Y, Z are one, KIND " + c[0], x, 3, WHOLE, c[2]);
            register("Y stays", x, 0, WHOLE, 7);
            register("Z stays", x, 1, WHOLE, -3);
        }
    }

    private void halve() {
        sentence("5 HALVE: X becomes half of Z");
        TraceTrees x = with(HALVE, 2, 0, 3, HALVE, 4, 0, 4);
        x.load(3, WHOLE, 6);
        x.load(4, WHOLE, -8);
        register("another", x, 2, WHOLE, 3);
        register("Z stays", x, 3, WHOLE, 6);
        register("itself", x, 4, WHOLE, -4);
    }

    /** A code that may jump to 2; it ends where it arrives: at 1, or at 2. */
    private static TraceTrees jumper(int kind, int b, int c) {
        return with(kind, 2, b, c, STOP, 0, 0, 0, STOP, 0, 0, 0);
    }

    private void less() {
        sentence("6 LESS: if Y is less than Z, it JUMPS to POINT a");
        int[][] cases = {{1, 2, 2}, {2, 2, 1}, {3, 2, 1}, {LEAST, MOST, 2}, {MOST, LEAST, 1}, {MOST - 1, MOST, 2},
            {MOST, MOST, 1}, {LEAST, LEAST, 1}, {-1, 0, 2}, {0, -1, 1}};
        for (int[] c : cases) {
            TraceTrees x = jumper(LESS, 0, 1);
            x.load(0, WHOLE, c[0]);
            x.load(1, WHOLE, c[1]);
            is("Y " + c[0] + ", Z " + c[1], x.ends(1), c[2]);
        }
        is("one REGISTER is not less than itself", jumper(LESS, 5, 5).ends(1), 1);
    }

    private void go() {
        sentence("7 GO: it JUMPS to a");
        is("over the next", jumper(GO, 0, 0).ends(1), 2);
        is("to the next", with(GO, 1, 0, 0, STOP, 0, 0, 0).ends(1), 1);
        ends("to itself", with(GO, 0, 0, 0), 0, 0, 200);
        ends("to where no CODE is", with(GO, 23, 0, 0), 2, 23, 1);
    }

    private void askForAWhole() {
        sentence("8 ASK: if Z is a WHOLE, it JUMPS to a");
        TraceTrees x = jumper(ASK, 0, 1);
        is("a WHOLE", x.ends(1), 2);
        x.load(1, FLOAT, 4);
        is("a FLOAT", x.ends(1), 1);
        x.load(1, WHOLE, LEAST);
        is("a WHOLE again", x.ends(1), 2);
    }

    private void stop() {
        sentence("9 STOP.");
        ends("the first", with(STOP, 0, 0, 0, SET, 0, 9, 0), 1, 0, 1);
        is("nothing behind it is done", with(STOP, 0, 0, 0, SET, 0, 9, 0).value(0, 1), 0);
        sentence("Else the next POINT is next.");
        ends("one behind another", with(SET, 0, 1, 0, ADD, 0, 0, 0, STOP, 0, 0, 0), 1, 2, 3);
        is("both were done", with(SET, 0, 1, 0, ADD, 0, 0, 0, STOP, 0, 0, 0).value(0, 1), 2);
    }

    private void whereNoCodeIs() {
        sentence("Where no CODE is the program ends; by STOP it does.");
        ends("none at all", new TraceTrees(), 2, 0, 0);
        ends("behind the last", with(SET, 0, 0, 0), 2, 1, 1);
        ends("a jump to just behind the last", with(GO, 2, 0, 0, SET, 0, 0, 0), 2, 2, 1);
        TraceTrees x = new TraceTrees();
        for (int i = 0; i < 23; i++) {
            x.add(SET, 0, 0, 0);
        }
        x.add(SET, 0, 0, 0);
        ends("behind the twenty-fourth", x, 2, 24, 24);
        x.alter(23, STOP, 0, 0, 0);
        ends("STOP is the twenty-fourth", x, 1, 23, 24);
        x.set(LIMIT, 24);
        ends("STOP, and LIMIT with it", x, 1, 23, 24);
    }

    private void newObject() {
        sentence("No CODE, LIMIT 200, HOT 3; all SHEETS are LOST.");
        TraceTrees x = new TraceTrees();
        int[] counts = {0, 200, 3, 0, 0, 0, 0, 0, 0};
        for (int i = 0; i < counts.length; i++) {
            is("count(" + i + ")", x.count(i), counts[i]);
        }
        for (int s = 0; s < 4; s++) {
            is("lose(" + s + ")", x.lose(s), NULL);
        }
    }

    private void add() {
        sentence("CODE behind all others: how many. BAD; FULL.");
        TraceTrees x = new TraceTrees();
        is("no such KIND", x.add(10, 0, 0, 0), BAD);
        is("the first", x.add(SET, 1, 5, 0), 1);
        is("the second", x.add(SET, 2, 6, 0), 2);
        is("it is behind", x.code(1, 2), 6);
        is("the run has both", x.value(1, 1) + x.value(2, 1), 11);
        for (int i = 3; i <= 24; i++) {
            x.add(SET, 3, i, 0);
        }
        is("no room", x.add(SET, 3, 25, 0), FULL);
        is("nothing came", x.value(3, 1), 24);
        x.back();
        is("room again", x.add(SET, 3, 26, 0), 24);
        is("it came", x.value(3, 1), 26);
    }

    private void alter() {
        sentence("The CODE at a POINT is another one: 1. BAD.");
        TraceTrees x = new TraceTrees();
        is("there is none", x.alter(0, SET, 0, 0, 0), BAD);
        x.add(SET, 0, 1, 0);
        x.add(SET, 0, 2, 0);
        is("the run ahead of it", x.value(0, 1), 2);
        is("the last POINT", x.alter(1, SET, 0, 3, 0), 1);
        is("the run behind it", x.value(0, 1), 3);
        is("how much is as before", x.count(0), 2);
        is("the first stays", x.code(0, 2), 1);
        for (int point : new int[] {LEAST, -1, 2, 24, MOST}) {
            is("POINT " + point, x.alter(point, SET, 0, 9, 0), BAD);
        }
        is("nothing changed", x.value(0, 1), 3);
    }

    private void back() {
        sentence("The last CODE is undone: how many are left. NOT: there is none.");
        TraceTrees x = new TraceTrees();
        is("none", x.back(), NOT);
        is("still none", x.count(0), 0);
        for (int i = 0; i < 24; i++) {
            x.add(SET, 0, i, 0);
        }
        for (int left = 23; left >= 0; left--) {
            is("back", x.back(), left);
            is("the run is without it", x.value(0, 1), Math.max(left - 1, 0));
            is("it is gone", x.code(left, 0), LEAST);
        }
        is("none", x.back(), NOT);
    }

    private void code() {
        sentence("Its KIND (what = 0), a (1), b (2), c (3). BAD: the least int.");
        TraceTrees x = with(LESS, 23, -30000, 7, STOP, 0, 30000, 1);
        int[] want = {LESS, 23, -30000, 7, STOP, 0, 30000, 1};
        for (int i = 0; i < 8; i++) {
            is("code", x.code(i / 4, i % 4), want[i]);
        }
        for (int point : new int[] {LEAST, -1, 2, 23, 24, MOST}) {
            is("POINT " + point, x.code(point, 0), LEAST);
        }
        for (int what : new int[] {LEAST, -1, 4, MOST}) {
            is("what " + what, x.code(0, what), LEAST);
        }
        is("of none", new TraceTrees().code(0, 0), LEAST);
    }

    private void load() {
        sentence("A REGISTER is LOADED with the WHOLE v (kind = 0), with the FLOAT of v, times 0.25 (1): 1. BAD.");
        TraceTrees x = new TraceTrees();
        for (int v : new int[] {LEAST, LEAST + 1, -16777219, -1, 0, 1, 3, 16777217, 16777219, MOST - 64, MOST - 63, MOST}) {
            for (int register = 0; register < 8; register += 7) {
                is("load", x.load(register, WHOLE, v), 1);
                register("the WHOLE " + v, x, register, WHOLE, v);
                is("load", x.load(register, FLOAT, v), 1);
                register("the FLOAT of " + v, x, register, FLOAT, bits((float) v * 0.25f));
            }
        }
        x.load(3, WHOLE, 33);
        for (int bad : new int[] {LEAST, -1, 8, MOST}) {
            is("REGISTER " + bad, x.load(bad, WHOLE, 1), BAD);
        }
        for (int bad : new int[] {LEAST, -1, 2, MOST}) {
            is("kind " + bad, x.load(3, bad, 1), BAD);
        }
        register("nothing changed", x, 3, WHOLE, 33);
    }

    private void setLimits() {
        sentence("LIMIT (what = 0), HOT (1): what it was. BAD.");
        TraceTrees x = new TraceTrees();
        is("LIMIT", x.set(LIMIT, 0), 200);
        is("the least", x.set(LIMIT, 600), 0);
        for (int bad : new int[] {LEAST, -1, 601, MOST}) {
            is("LIMIT " + bad, x.set(LIMIT, bad), BAD);
        }
        is("the most, and it stayed", x.set(LIMIT, 7), 600);
        is("HOT", x.set(HOT, 2), 3);
        is("the least", x.set(HOT, 9), 2);
        for (int bad : new int[] {LEAST, -1, 0, 1, 10, MOST}) {
            is("HOT " + bad, x.set(HOT, bad), BAD);
        }
        is("the most, and it stayed", x.set(HOT, 5), 9);
        for (int bad : new int[] {LEAST, -1, 2, MOST}) {
            is("what " + bad, x.set(bad, 5), BAD);
        }
        is("LIMIT is", x.count(1), 7);
        is("HOT is", x.count(2), 5);
    }

    private void read() {
        sentence("CODE from a SHEET, behind all others: its items, four for each, as many as are whole, "
                + "as long as each may be: how many. BAD; NULL.");
        TraceTrees x = with(SET, 0, 5, 0);
        for (int bad : new int[] {LEAST, -1, 4, MOST}) {
            is("SHEET " + bad, x.read(bad), BAD);
        }
        is("no FINDING yet", x.count(8), 0);
        is("a LOST one", x.read(3), NULL);
        is("a FINDING", x.count(8), 1);
        for (int n = 0; n < 4; n++) {
            x.sheet(0, BYTES, n);
            is("of " + n + " items", x.read(0), 0);
        }
        is("nothing came", x.count(0), 1);
        put(x, 0, BYTES, SET, 1, -128, 0, SET, 2, 127, 0, 1);
        is("of nine items", x.read(0), 2);
        is("behind all others", x.code(2, 2), 127);
        is("the run has them", x.value(1, 1), -128);
        put(x, 1, SHORTS, SET, 3, 30000, 0, SET, 4, 30001, 0, SET, 5, 1, 0);
        is("up to one that may not be", x.read(1), 1);
        is("none behind that", x.count(0), 4);
        readUntilFull();
    }

    private void readUntilFull() {
        TraceTrees x = new TraceTrees();
        x.sheet(2, SHORTS, 60);
        is("fifteen", x.read(2), 15);
        is("as many as there is room for", x.read(2), 9);
        is("full", x.count(0), 24);
        is("no room", x.read(2), 0);
        x.back();
        is("room for one", x.read(2), 1);
    }
}
