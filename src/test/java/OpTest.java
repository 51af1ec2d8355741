import java.math.BigInteger;
import java.util.List;
import java.util.Random;

/** Promises 4 and 5: op and flag. */
public final class OpTest {
    private static final Due DUE = new Due("OpTest");
    private static final int KINDS = 19;

    public static void main(String[] args) {
        for (int width = 1; width <= 5; width++) {
            allPairs(width);
        }
        Random chance = new Random(4);
        for (int width = 6; width <= 512; width++) {
            boolean edge = width % 64 < 2 || width % 64 == 63 || width % 32 < 2;
            somePairs(width, chance, edge ? 60 : 8);
        }
        hardQuotients(chance);
        edgePairs(64, chance);
        edgePairs(65, chance);
        edgePairs(512, chance);
        refused();
        lone();
        onlyOpChangesFlags();
        DUE.end();
    }

    private static void allPairs(int width) {
        for (int a = 0; a < 1 << width; a++) {
            for (int b = 0; b < 1 << width; b++) {
                pair(width, BigInteger.valueOf(a), BigInteger.valueOf(b));
            }
        }
    }

    private static void somePairs(int width, Random chance, int many) {
        List<BigInteger> numbers = Numbers.interesting(width, chance, 12);
        for (int k = 0; k < many; k++) {
            BigInteger a = numbers.get(chance.nextInt(numbers.size()));
            BigInteger b = numbers.get(chance.nextInt(numbers.size()));
            pair(width, a, b);
        }
        BigInteger below = Numbers.power(width - 1);
        pair(width, below, Numbers.power(width).subtract(BigInteger.ONE));
        pair(width, below, BigInteger.valueOf(width));
        pair(width, below, BigInteger.valueOf(width - 1));
        pair(width, below, Numbers.cut(BigInteger.valueOf(width + 1), width));
    }

    private static void edgePairs(int width, Random chance) {
        List<BigInteger> numbers = Numbers.interesting(width, chance, 4);
        for (BigInteger a : numbers) {
            for (BigInteger b : numbers) {
                pair(width, a, b);
            }
        }
    }

    /** Divisors near a power of two and dividends near their multiples: a digit's guess is too great. */
    private static void hardQuotients(Random chance) {
        for (int k = 0; k < 4000; k++) {
            int width = 65 + chance.nextInt(448);
            int length = 33 + chance.nextInt(width - 33);
            BigInteger divisor = Numbers.power(length - 1).add(new BigInteger(1 + chance.nextInt(length - 1), chance));
            BigInteger quotient = Numbers.power(width - length).subtract(BigInteger.valueOf(chance.nextInt(3)));
            BigInteger dividend = divisor.multiply(quotient).subtract(BigInteger.valueOf(chance.nextInt(3)));
            pair(width, Numbers.cut(dividend, width), divisor);
        }
    }

    private static void pair(int width, BigInteger a, BigInteger b) {
        WidthWords words = new WidthWords(width);
        int first = Numbers.put(words, a);
        int second = Numbers.put(words, b);
        int made = 2;
        for (int kind = 0; kind < KINDS; kind++) {
            int asked = kind;
            String call = "op(" + kind + ") of " + a.toString(16) + " and " + b.toString(16) + " in width " + width;
            if (kind >= 4 && kind <= 7 && b.signum() == 0) {
                DUE.refused(call, ArithmeticException.class, () -> words.op(asked, first, second));
            } else if (kind == 18 && width % 8 != 0) {
                DUE.refused(call, IllegalArgumentException.class, () -> words.op(asked, first, second));
            } else {
                DUE.same(call, words.op(kind, first, second), made);
                answers(words, made, new OpModel(kind, width, a, b), call);
                made++;
            }
        }
        DUE.same("a stays", Numbers.read(words, first), a);
        DUE.same("b stays", Numbers.read(words, second), b);
    }

    private static void answers(WidthWords words, int made, OpModel model, String call) {
        DUE.same(call + ": width", words.width(made), model.width);
        DUE.same(call, Numbers.read(words, made), model.answer);
        DUE.same(call + ": CARRY", words.flag(0), model.carry ? 1 : 0);
        DUE.same(call + ": OVERFLOW", words.flag(1), model.overflow ? 1 : 0);
        DUE.same(call + ": ZERO", words.flag(2), model.answer.signum() == 0 ? 1 : 0);
        DUE.same(call + ": NEGATIVE", words.flag(3), model.answer.testBit(model.width - 1) ? 1 : 0);
    }

    private static void refused() {
        WidthWords words = new WidthWords(8);
        int a = Numbers.put(words, BigInteger.TEN);
        int wide = words.extend(a, 9, false);
        int nought = words.word();
        for (int kind : new int[] {-1, 19, 20, Integer.MIN_VALUE, Integer.MAX_VALUE}) {
            DUE.refused("op(" + kind + ")", IllegalArgumentException.class, () -> words.op(kind, a, a));
            DUE.refused("op(" + kind + ") without b", ArrayIndexOutOfBoundsException.class, () -> words.op(kind, a, 3));
            DUE.refused("op(" + kind + ") without a", ArrayIndexOutOfBoundsException.class, () -> words.op(kind, -1, a));
        }
        for (int kind = 0; kind < 16; kind++) {
            int asked = kind;
            DUE.refused("op(" + kind + ") of two widths", IllegalArgumentException.class, () -> words.op(asked, wide, nought));
            DUE.refused("op(" + kind + ") without a", ArrayIndexOutOfBoundsException.class, () -> words.op(asked, 3, a));
            DUE.refused("op(" + kind + ") without b", ArrayIndexOutOfBoundsException.class, () -> words.op(asked, a, -1));
            DUE.refused("op(" + kind + ") with b 3", ArrayIndexOutOfBoundsException.class, () -> words.op(asked, wide, 3));
        }
        for (int kind = 16; kind < KINDS; kind++) {
            int asked = kind;
            DUE.refused("op(" + kind + ") without a", ArrayIndexOutOfBoundsException.class, () -> words.op(asked, 3, a));
        }
        DUE.refused("op(18) of 9 bits", IllegalArgumentException.class, () -> words.op(18, wide, wide));
        for (int kind : new int[] {-1, 4, 5, Integer.MIN_VALUE, Integer.MAX_VALUE}) {
            DUE.refused("flag(" + kind + ")", IllegalArgumentException.class, () -> words.flag(kind));
        }
        DUE.same("no word was made", words.word(), 3);
    }

    /** 16, 17 and 18 do not look at b. */
    private static void lone() {
        WidthWords words = new WidthWords(24);
        int a = Numbers.put(words, BigInteger.valueOf(0x123456));
        int other = words.extend(a, 40, false);
        for (int b : new int[] {other, 99, -1, Integer.MIN_VALUE, Integer.MAX_VALUE}) {
            DUE.same("op(16) with b " + b, words.limb(words.op(16, a, b), 0), 0xEDCBA9);
            DUE.same("op(17) with b " + b, words.limb(words.op(17, a, b), 0), 0x6A2C48);
            DUE.same("op(18) with b " + b, words.limb(words.op(18, a, b), 0), 0x563412);
        }
    }

    private static void onlyOpChangesFlags() {
        WidthWords words = new WidthWords(8);
        int a = Numbers.put(words, BigInteger.valueOf(0x80));
        int nought = words.word();
        int narrow = words.field(a, 0, 3);
        words.op(0, a, a);
        Runnable alike = () -> {
            DUE.same("CARRY stays", words.flag(0), 1);
            DUE.same("OVERFLOW stays", words.flag(1), 1);
            DUE.same("ZERO stays", words.flag(2), 1);
            DUE.same("NEGATIVE stays", words.flag(3), 0);
        };
        alike.run();
        DUE.refused("op by 0", ArithmeticException.class, () -> words.op(4, a, nought));
        alike.run();
        DUE.refused("op of two widths", IllegalArgumentException.class, () -> words.op(13, a, narrow));
        alike.run();
        DUE.refused("op without b", ArrayIndexOutOfBoundsException.class, () -> words.op(13, a, 77));
        alike.run();
        words.word();
        words.field(a, 1, 7);
        words.join(a, narrow);
        words.extend(a, 12, true);
        words.real(0, a, nought, 0);
        words.set(nought, 0, 3);
        words.compare(a, nought, true);
        alike.run();
        words.op(13, a, a);
        DUE.same("CARRY of and", words.flag(0), 0);
        DUE.same("OVERFLOW of and", words.flag(1), 0);
        DUE.same("ZERO of and", words.flag(2), 0);
        DUE.same("NEGATIVE of and", words.flag(3), 1);
    }
}
