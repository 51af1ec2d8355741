import java.util.Random;

/** Promises 12 and 13: real and flags. */
public final class RealTest {
    private static final Due DUE = new Due("RealTest");
    private static final int CASES_OF_AN_OBJECT = 90;

    private final RealModel model;
    private WidthWords words;
    private int used = CASES_OF_AN_OBJECT;

    private RealTest(int width) {
        model = new RealModel(width);
    }

    public static void main(String[] args) {
        new RealTest(8).allPairs();
        Random chance = new Random(12);
        for (int width : new int[] {16, 32}) {
            RealTest test = new RealTest(width);
            test.edges();
            test.without(chance, 30000);
            test.near(chance, 30000);
        }
        likeFloats(chance, 200000);
        named();
        refused();
        flagsStay();
        DUE.end();
    }

    private void allPairs() {
        for (int a = 0; a < 256; a++) {
            for (int b = 0; b < 256; b++) {
                pair(a, b);
            }
        }
    }

    private void edges() {
        long one = model.infinite / 2 & -1L << model.fractionBits;
        long least = 1L << model.fractionBits;
        long[] numbers = {0, 1, 2, 3, least / 2, least - 1, least, least + 1, 2 * least - 1, 2 * least, 3 * least + 1,
            one - 1, one, one + 1, one - least, one + least, one + least / 2, one + 3 * least - 1,
            one - (model.fractionBits + 1L) * least, one - (model.fractionBits + 2L) * least,
            one - (model.fractionBits + 1L) * least + 1, model.infinite - 1, model.infinite - 2,
            model.infinite - least, model.infinite - least - 1, model.infinite - (model.fractionBits + 2L) * least,
            model.infinite, model.infinite + 1, model.infinite + least / 2, model.infinite + least - 1};
        for (long a : numbers) {
            for (long b : numbers) {
                pair(a, b);
                pair(a | model.signBit, b);
                pair(a, b | model.signBit);
                pair(a | model.signBit, b | model.signBit);
            }
        }
    }

    private void without(Random chance, int many) {
        long mask = 2 * model.signBit - 1;
        for (int k = 0; k < many; k++) {
            pair(chance.nextLong() & mask, chance.nextLong() & mask);
        }
    }

    /** Exponents that lie near one another, and fractions with few ones: sums that end in halves. */
    private void near(Random chance, int many) {
        long mask = 2 * model.signBit - 1;
        int f = model.fractionBits;
        for (int k = 0; k < many; k++) {
            long a = chance.nextLong() & mask;
            long fraction = chance.nextBoolean() ? 1L << chance.nextInt(f) : (1L << f) - 1 & -1L << chance.nextInt(f);
            long exponent = (a >> f) + chance.nextInt(2 * f + 5) - f - 2;
            long b = exponent << f | fraction;
            pair(a, (chance.nextBoolean() ? b : b ^ model.signBit) & mask);
        }
    }

    private void pair(long a, long b) {
        for (int kind = 0; kind < 4; kind++) {
            for (int way = 0; way < 5; way++) {
                one(kind, a, b, way);
            }
        }
    }

    private void one(int kind, long a, long b, int way) {
        if (used == CASES_OF_AN_OBJECT) {
            used = 0;
            words = new WidthWords(model.width);
            words.word();
            words.word();
        }
        used++;
        words.set(0, 0, a);
        words.set(1, 0, b);
        model.ask(kind, a, b, way);
        int made = words.real(kind, 0, 1, way);
        if (made != used + 1 || words.limb(made, 0) != model.answer || words.flags() != model.flags) {
            String call = "real(" + kind + ", " + Long.toHexString(a) + ", " + Long.toHexString(b) + ", " + way + ") in width " + model.width;
            DUE.same(call + ": number", made, used + 1);
            DUE.same(call, words.limb(made, 0), model.answer);
            DUE.same(call + ": flags", words.flags(), model.flags);
        } else {
            DUE.same("real", true, true);
        }
    }

    /** Way 0 in 32 bits is what Java's float does, but for the bits of NONE. */
    private static void likeFloats(Random chance, int many) {
        for (int k = 0; k < many; k++) {
            int a = chance.nextInt();
            int b = k % 2 == 0 ? chance.nextInt() : a + (chance.nextInt(61) - 30 << 23) + chance.nextInt(9) - 4;
            float x = Float.intBitsToFloat(a);
            float y = Float.intBitsToFloat(b);
            float[] due = {x + y, x - y, x * y, x / y};
            WidthWords words = new WidthWords(32);
            words.word();
            words.word();
            words.set(0, 0, a & 0xFFFFFFFFL);
            words.set(1, 0, b & 0xFFFFFFFFL);
            for (int kind = 0; kind < 4; kind++) {
                long want = Float.floatToIntBits(due[kind]) & 0xFFFFFFFFL;
                DUE.same("real(" + kind + ") of " + x + " and " + y, words.limb(words.real(kind, 0, 1, 0), 0), want);
            }
        }
    }

    /** Cases that the document names, with answers reckoned by hand, in 16 bits. */
    private static void named() {
        int[][] cases = {
            // kind, a, b, way, answer, flags
            {0, 0x7E01, 0x3C00, 0, 0x7E00, 0}, {3, 0x3C00, 0xFC01, 3, 0x7E00, 0}, {2, 0x7C01, 0x0000, 1, 0x7E00, 0},
            {0, 0x7C00, 0xFC00, 1, 0x7E00, 1}, {1, 0xFC00, 0xFC00, 4, 0x7E00, 1}, {2, 0x8000, 0x7C00, 2, 0x7E00, 1},
            {3, 0x0000, 0x8000, 3, 0x7E00, 1}, {3, 0xFC00, 0x7C00, 0, 0x7E00, 1},
            {3, 0xBC00, 0x0000, 0, 0xFC00, 2}, {3, 0x0001, 0x0000, 1, 0x7C00, 2}, {3, 0xFC00, 0x0000, 0, 0xFC00, 0},
            {3, 0x7C00, 0x8000, 0, 0xFC00, 0}, {3, 0xBC00, 0x7C00, 0, 0x8000, 0}, {3, 0x8000, 0x4000, 0, 0x8000, 0},
            {2, 0x7C00, 0x8001, 0, 0xFC00, 0}, {2, 0x8000, 0x3C00, 2, 0x8000, 0},
            {0, 0x3C00, 0xFC00, 0, 0xFC00, 0}, {1, 0x3C00, 0xFC00, 0, 0x7C00, 0}, {1, 0x3C00, 0x7C00, 0, 0xFC00, 0},
            {0, 0x7C00, 0x7C00, 3, 0x7C00, 0}, {1, 0xFC00, 0x7C00, 2, 0xFC00, 0}, {0, 0xFC00, 0x7BFF, 2, 0xFC00, 0},
            {0, 0x8000, 0x8000, 2, 0x8000, 0}, {1, 0x8000, 0x0000, 0, 0x8000, 0}, {1, 0x0000, 0x0000, 3, 0x8000, 0},
            {1, 0x0000, 0x0000, 0, 0x0000, 0}, {0, 0x0000, 0x0000, 3, 0x0000, 0}, {1, 0x4200, 0x4200, 3, 0x8000, 0},
            {0, 0x0001, 0x0001, 0, 0x0002, 0}, {1, 0x0400, 0x0001, 0, 0x03FF, 0}, {2, 0x8001, 0x0001, 2, 0x8000, 24},
            {2, 0x8001, 0x0001, 3, 0x8001, 24}, {2, 0x7BFF, 0xFBFF, 1, 0xFBFF, 20}, {2, 0x7BFF, 0x7BFF, 3, 0x7BFF, 20},
            {0, 0x7BFF, 0x4C00, 0, 0x7C00, 20}, {0, 0x7BFF, 0x4BFF, 0, 0x7BFF, 16}, {0, 0x7BFF, 0x4C00, 1, 0x7BFF, 16},
            {2, 0x7800, 0x4000, 1, 0x7BFF, 20}, {2, 0xF800, 0x4000, 2, 0xFBFF, 20}, {3, 0x0400, 0x4000, 0, 0x0200, 0},
        };
        WidthWords words = new WidthWords(16);
        words.word();
        words.word();
        for (int[] c : cases) {
            words.set(0, 0, c[1]);
            words.set(1, 0, c[2]);
            String call = "real(" + c[0] + ", " + Integer.toHexString(c[1]) + ", " + Integer.toHexString(c[2]) + ", " + c[3] + ")";
            DUE.same(call, words.limb(words.real(c[0], 0, 1, c[3]), 0), c[4]);
            DUE.same(call + ": flags", words.flags(), c[5]);
        }
    }

    private static void refused() {
        for (int width : new int[] {1, 7, 9, 15, 17, 24, 31, 33, 64, 128, 512}) {
            WidthWords words = new WidthWords(width);
            words.word();
            DUE.refused("real in width " + width, IllegalArgumentException.class, () -> words.real(0, 0, 0, 0));
            DUE.refused("real without b in width " + width, ArrayIndexOutOfBoundsException.class, () -> words.real(0, 0, 1, 0));
        }
        WidthWords words = new WidthWords(8);
        int narrow = words.word();
        int wide = words.extend(narrow, 16, false);
        DUE.refused("real of two widths", IllegalArgumentException.class, () -> words.real(0, narrow, wide, 0));
        for (int wrong : new int[] {-1, 4, 5, Integer.MIN_VALUE, Integer.MAX_VALUE}) {
            DUE.refused("real(" + wrong + ")", IllegalArgumentException.class, () -> words.real(wrong, narrow, narrow, 0));
            DUE.refused("real(" + wrong + ") without a", ArrayIndexOutOfBoundsException.class, () -> words.real(wrong, -1, narrow, 0));
            DUE.refused("real without b " + wrong, ArrayIndexOutOfBoundsException.class, () -> words.real(9, narrow, wrong, 9));
        }
        for (int wrong : new int[] {-1, 5, 6, Integer.MIN_VALUE, Integer.MAX_VALUE}) {
            DUE.refused("way " + wrong, IllegalArgumentException.class, () -> words.real(0, narrow, narrow, wrong));
        }
        DUE.same("no word was made", words.word(), 2);
        DUE.same("width of a number in 16 bits", words.width(words.real(0, wide, wide, 0)), 16);
    }

    /** Nothing but a real() that answers changes the flags. */
    private static void flagsStay() {
        WidthWords words = new WidthWords(8);
        int one = words.word();
        int nought = words.word();
        words.set(one, 0, 0x38);
        words.real(3, one, nought, 0);
        DUE.same("BY ZERO", words.flags(), 2);
        words.op(0, one, one);
        DUE.refused("op by 0", ArithmeticException.class, () -> words.op(4, one, nought));
        DUE.refused("real with no such way", IllegalArgumentException.class, () -> words.real(0, one, one, 5));
        DUE.refused("real with no such word", ArrayIndexOutOfBoundsException.class, () -> words.real(0, one, 50, 0));
        words.set(one, 0, 0x40);
        words.word();
        DUE.same("BY ZERO stays", words.flags(), 2);
        words.real(0, one, one, 0);
        DUE.same("no flags of an exact sum", words.flags(), 0);
        int sum = words.op(0, one, one);
        int carry = words.flag(0);
        words.real(2, sum, sum, 1);
        DUE.same("real() leaves the flags of op()", words.flag(0), carry);
    }
}
