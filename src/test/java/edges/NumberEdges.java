import java.util.Arrays;

/** What WHOLES and FLOATS make, where an int or a float comes to its end. */
final class NumberEdges extends Edges {
    private static final float TWO_TO_31 = 2147483648f;

    NumberEdges(Due due) {
        super(due);
    }

    @Override
    void ask() {
        wholesThatAnIntCanHold();
        wholesThatNoIntCanHold();
        nearestOfTwo();
        eitherIsAFloat();
        zeros();
        mostFloat();
        floatsWithoutEnd();
        halves();
        leastFloat();
        lessOfWholes();
        lessOfFloats();
    }

    /** Y and Z as loaded, X behind one code. */
    private TraceTrees made(int kind, int kindY, int y, int kindZ, int z) {
        TraceTrees x = with(kind, 2, 0, 1);
        x.load(0, kindY, y);
        x.load(1, kindZ, z);
        return x;
    }

    private void wholes(int kind, int y, int z, int wantKind, int wantBits) {
        register("KIND " + kind + " of " + y + " and " + z, made(kind, WHOLE, y, WHOLE, z), 2, wantKind, wantBits);
    }

    private void wholesThatAnIntCanHold() {
        sentence("Two WHOLES make a WHOLE, if an int can hold it");
        wholes(ADD, MOST, 0, WHOLE, MOST);
        wholes(ADD, MOST - 1, 1, WHOLE, MOST);
        wholes(ADD, LEAST, 0, WHOLE, LEAST);
        wholes(ADD, LEAST, MOST, WHOLE, -1);
        wholes(SUB, LEAST + 1, 1, WHOLE, LEAST);
        wholes(SUB, -1, LEAST, WHOLE, MOST);
        wholes(SUB, LEAST, LEAST, WHOLE, 0);
        wholes(MUL, 46340, 46340, WHOLE, 2147395600);
        wholes(MUL, -32768, 65536, WHOLE, LEAST);
        wholes(MUL, MOST, -1, WHOLE, -MOST);
        wholes(MUL, LEAST, 1, WHOLE, LEAST);
        wholes(MUL, LEAST, 0, WHOLE, 0);
    }

    private void wholesThatNoIntCanHold() {
        sentence("else the FLOAT that is nearest to it (as a long becomes a float).");
        wholes(ADD, MOST, 1, FLOAT, bits(TWO_TO_31));
        wholes(ADD, LEAST, -1, FLOAT, bits(-TWO_TO_31));
        wholes(ADD, MOST, MOST, FLOAT, bits(2 * TWO_TO_31));
        wholes(ADD, LEAST, LEAST, FLOAT, bits(-2 * TWO_TO_31));
        wholes(SUB, 0, LEAST, FLOAT, bits(TWO_TO_31));
        wholes(SUB, LEAST, 1, FLOAT, bits(-TWO_TO_31));
        wholes(SUB, LEAST, MOST, FLOAT, bits(-2 * TWO_TO_31));
        wholes(MUL, 46341, 46341, FLOAT, bits(2147488256f));
        wholes(MUL, 32768, 65536, FLOAT, bits(TWO_TO_31));
        wholes(MUL, LEAST, -1, FLOAT, bits(TWO_TO_31));
        wholes(MUL, LEAST, LEAST, FLOAT, bits(TWO_TO_31 * TWO_TO_31));
        wholes(MUL, MOST, MOST, FLOAT, bits(TWO_TO_31 * TWO_TO_31));
        wholes(MUL, LEAST, MOST, FLOAT, bits(-TWO_TO_31 * TWO_TO_31));
    }

    /** From 2 to the 31st on, floats are 256 apart; of two that are as near, it is the even one. */
    private void nearestOfTwo() {
        sentence("the FLOAT that is nearest to it (as a long becomes a float)");
        wholes(ADD, MOST, 1 + 127, FLOAT, 0x4f000000);
        wholes(ADD, MOST, 1 + 128, FLOAT, 0x4f000000);
        wholes(ADD, MOST, 1 + 129, FLOAT, 0x4f000001);
        wholes(ADD, MOST, 1 + 256, FLOAT, 0x4f000001);
        wholes(ADD, MOST, 1 + 384, FLOAT, 0x4f000002);
        wholes(ADD, LEAST, -128, FLOAT, 0xcf000000);
        wholes(ADD, LEAST, -129, FLOAT, 0xcf000001);
        wholes(MUL, 65537, 65537, FLOAT, bits((float) (65537L * 65537L)));
        wholes(MUL, MOST, 3, FLOAT, bits((float) (3L * MOST)));
        wholes(MUL, 123456789, 987654321, FLOAT, bits((float) (123456789L * 987654321L)));
        // Not by way of two floats: these would be rounded ahead of being multiplied.
        wholes(MUL, 16777217, 16777217, FLOAT, bits((float) (16777217L * 16777217L)));
    }

    private void eitherIsAFloat() {
        sentence("If either is a FLOAT, both are as floats (a WHOLE becomes one as an int does), and so is what they make.");
        for (int kind = ADD; kind <= MUL; kind++) {
            register("Y, KIND " + kind, made(kind, FLOAT, 8, WHOLE, 3), 2, FLOAT, bits(of(kind, 2f, 3f)));
            register("Z, KIND " + kind, made(kind, WHOLE, 3, FLOAT, 8), 2, FLOAT, bits(of(kind, 3f, 2f)));
            register("both, KIND " + kind, made(kind, FLOAT, 8, FLOAT, 4), 2, FLOAT, bits(of(kind, 2f, 1f)));
        }
        register("a WHOLE of 25 bits", made(ADD, WHOLE, 16777217, FLOAT, 0), 2, FLOAT, bits(16777216f));
        register("an odd one above", made(ADD, FLOAT, 0, WHOLE, 16777219), 2, FLOAT, bits(16777220f));
        register("the most", made(MUL, WHOLE, MOST, FLOAT, 4), 2, FLOAT, bits(TWO_TO_31));
        register("the least", made(MUL, FLOAT, 4, WHOLE, LEAST), 2, FLOAT, bits(-TWO_TO_31));
        register("ahead of being added", made(SUB, WHOLE, 16777217, FLOAT, 4), 2, FLOAT, bits(16777215f));
        register("one below 0 taken away", made(SUB, FLOAT, 4, FLOAT, -4), 2, FLOAT, bits(2f));
        register("both below 0", made(MUL, FLOAT, -4, FLOAT, -8), 2, FLOAT, bits(2f));
        register("0 less 0", made(SUB, FLOAT, 0, FLOAT, 0), 2, FLOAT, bits(0f));
        register("0 times -1", made(MUL, FLOAT, 0, WHOLE, -1), 2, FLOAT, bits(-0f));
    }

    /** The 0 below 0 that 0 times -1 makes stays below 0 only beside another such one. */
    private void zeros() {
        sentence("both are as floats");
        TraceTrees x = with(MUL, 0, 0, 1, ADD, 2, 0, 0, ADD, 3, 0, 7, SUB, 4, 0, 7, SUB, 5, 0, 0, MUL, 6, 0, 0);
        x.load(0, FLOAT, 0);
        x.load(1, WHOLE, -1);
        register("twice", x, 2, FLOAT, bits(-0f));
        register("and 0", x, 3, FLOAT, bits(0f));
        register("less 0", x, 4, FLOAT, bits(-0f));
        register("less itself", x, 5, FLOAT, bits(0f));
        register("squared", x, 6, FLOAT, bits(0f));
    }

    private static float of(int kind, float y, float z) {
        return kind == ADD ? y + z : kind == SUB ? y - z : y * z;
    }

    /** 2 to the 104th times 16777215 is the most that a float can be; half of its last bit more has no end. */
    private void mostFloat() {
        sentence("and so is what they make");
        TraceTrees x = with(MUL, 0, 0, 0, MUL, 0, 0, 0, MUL, 3, 0, 1, MUL, 4, 3, 2, HALVE, 5, 0, 3, ADD, 5, 4, 5,
                HALVE, 6, 0, 3, HALVE, 6, 0, 6, ADD, 6, 4, 6, MUL, 7, 4, 7);
        x.load(0, WHOLE, 1 << 26);
        x.load(1, FLOAT, 4);
        x.load(2, WHOLE, 16777215);
        x.load(7, FLOAT, 6);
        register("2 to the 104th", x, 3, FLOAT, bits(0x1p104f));
        register("the most", x, 4, FLOAT, bits(Float.MAX_VALUE));
        register("half of the last bit more", x, 5, FLOAT, bits(Float.POSITIVE_INFINITY));
        register("a quarter of it more", x, 6, FLOAT, bits(Float.MAX_VALUE));
        register("times 1.5", x, 7, FLOAT, bits(Float.POSITIVE_INFINITY));
    }

    /** 2 to the 31st, squared three times, has no end. */
    private static int[] withoutEnd(int... then) {
        int[] codes = {MUL, 0, 0, 0, MUL, 0, 0, 0, COPY, 1, 0, 0, MUL, 0, 0, 0};
        int[] all = Arrays.copyOf(codes, codes.length + then.length);
        System.arraycopy(then, 0, all, codes.length, then.length);
        return all;
    }

    private void floatsWithoutEnd() {
        sentence("and so is what they make");
        TraceTrees x = with(withoutEnd(SUB, 2, 0, 0, MUL, 3, 0, 7, SUB, 4, 7, 0, ADD, 5, 0, 0, MUL, 6, 4, 0));
        x.load(0, WHOLE, LEAST);
        register("the fourth power", x, 1, FLOAT, bits(0x1p124f));
        register("the eighth power", x, 0, FLOAT, bits(Float.POSITIVE_INFINITY));
        register("less itself", x, 2, FLOAT, bits(Float.NaN));
        register("times 0", x, 3, FLOAT, bits(Float.NaN));
        register("taken away from 0", x, 4, FLOAT, bits(Float.NEGATIVE_INFINITY));
        register("twice", x, 5, FLOAT, bits(Float.POSITIVE_INFINITY));
        register("both multiplied", x, 6, FLOAT, bits(Float.NEGATIVE_INFINITY));
        TraceTrees y = with(withoutEnd(SUB, 2, 0, 0, MUL, 3, 2, 1, MUL, 4, 1, 2, ADD, 5, 2, 1, SUB, 6, 1, 2, HALVE, 7, 0, 2));
        y.load(0, WHOLE, LEAST);
        for (int register = 2; register < 8; register++) {
            register("no number, whatever is done to it", y, register, FLOAT, bits(Float.NaN));
        }
        TraceTrees z = with(withoutEnd(MUL, 2, 0, 1, HALVE, 3, 0, 0, ADD, 4, 1, 0, SUB, 5, 0, 1, MUL, 6, 6, 0));
        z.load(0, WHOLE, LEAST);
        z.load(6, FLOAT, -1);
        for (int register = 2; register < 6; register++) {
            register("without end, whatever is done to it", z, register, FLOAT, bits(Float.POSITIVE_INFINITY));
        }
        register("times one below 0", z, 6, FLOAT, bits(Float.NEGATIVE_INFINITY));
    }

    private void halves() {
        sentence("HALVE of an even WHOLE is a WHOLE, of an odd one the FLOAT of it, and of a FLOAT that, times 0.5.");
        for (int even : new int[] {LEAST, LEAST + 2, -2, 0, 2, MOST - 1}) {
            register("half of " + even, made(HALVE, WHOLE, 0, WHOLE, even), 2, WHOLE, even / 2);
        }
        for (int odd : new int[] {LEAST + 1, -3, -1, 1, 3, 16777217, 16777219, MOST}) {
            register("half of " + odd, made(HALVE, WHOLE, 0, WHOLE, odd), 2, FLOAT, bits((float) (odd / 2.0)));
        }
        register("of the FLOAT 4", made(HALVE, WHOLE, 0, FLOAT, 16), 2, FLOAT, bits(2f));
        register("of the FLOAT 3", made(HALVE, WHOLE, 0, FLOAT, 12), 2, FLOAT, bits(1.5f));
        register("of the FLOAT 0", made(HALVE, WHOLE, 0, FLOAT, 0), 2, FLOAT, bits(0f));
        register("of the FLOAT -0.25", made(HALVE, WHOLE, 0, FLOAT, -1), 2, FLOAT, bits(-0.125f));
    }

    /** 2 to the -149th is the least float; half of it, and of three of it, goes to the even one. */
    private void leastFloat() {
        sentence("of a FLOAT that, times 0.5");
        TraceTrees x = with(MUL, 1, 0, 0, MUL, 2, 1, 1, MUL, 2, 2, 2, COPY, 3, 0, 2, MUL, 2, 2, 2, MUL, 2, 2, 2,
                MUL, 2, 2, 2, MUL, 2, 2, 3, MUL, 2, 2, 1, HALVE, 2, 0, 2, HALVE, 4, 0, 2, ADD, 5, 2, 2, ADD, 5, 5, 2,
                HALVE, 6, 0, 5, SUB, 7, 4, 2, HALVE, 7, 0, 7);
        x.load(0, FLOAT, 1);
        register("the least", x, 2, FLOAT, 1);
        register("half of it", x, 4, FLOAT, 0);
        register("three of it", x, 5, FLOAT, 3);
        register("half of three", x, 6, FLOAT, 2);
        register("half of the least below 0", x, 7, FLOAT, bits(-0f));
    }

    private void less(String name, TraceTrees x, boolean want) {
        x.alter(0, LESS, 2, 0, 1);
        x.add(STOP, 0, 0, 0);
        x.add(STOP, 0, 0, 0);
        is(name, x.ends(1), want ? 2 : 1);
    }

    private void lessOfWholes() {
        sentence("LESS compares two WHOLES as ints");
        less("as floats they are alike", made(LESS, WHOLE, 16777216, WHOLE, 16777217), true);
        less("the most two", made(LESS, WHOLE, MOST - 1, WHOLE, MOST), true);
        less("the other way round", made(LESS, WHOLE, MOST, WHOLE, MOST - 1), false);
        less("the least and the most", made(LESS, WHOLE, LEAST, WHOLE, MOST), true);
        less("the most and the least", made(LESS, WHOLE, MOST, WHOLE, LEAST), false);
    }

    private void lessOfFloats() {
        sentence("LESS compares two WHOLES as ints, else both as floats.");
        less("Z is a FLOAT, alike as floats", made(LESS, WHOLE, 16777216, FLOAT, 67108868), false);
        less("Y is a FLOAT, alike as floats", made(LESS, FLOAT, 67108864, WHOLE, 16777217), false);
        less("Y is a FLOAT and less", made(LESS, FLOAT, 67108864, WHOLE, 16777218), true);
        less("Z is a FLOAT and more", made(LESS, WHOLE, 1, FLOAT, 5), true);
        less("both alike", made(LESS, FLOAT, 5, FLOAT, 5), false);
        less("both below 0", made(LESS, FLOAT, -5, FLOAT, -4), true);
        less("both below 0, the other way", made(LESS, FLOAT, -4, FLOAT, -5), false);
        less("below 0 and above", made(LESS, FLOAT, -1, FLOAT, 1), true);
        TraceTrees zeros = with(MUL, 0, 0, 1, LESS, 3, 0, 2, STOP, 0, 0, 0, STOP, 0, 0, 0);
        zeros.load(0, FLOAT, 0);
        zeros.load(1, WHOLE, -1);
        zeros.load(2, FLOAT, 0);
        is("0 below 0 is not less than 0", zeros.ends(1), 2);
        TraceTrees none = with(MUL, 0, 0, 0, MUL, 0, 0, 0, MUL, 0, 0, 0, SUB, 1, 0, 0, LESS, 23, 1, 0, LESS, 23, 0, 1,
                LESS, 23, 1, 1, STOP, 0, 0, 0);
        none.load(0, WHOLE, LEAST);
        is("what is no number is less than nothing", none.ends(1), 7);
    }
}
