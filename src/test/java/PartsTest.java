import java.math.BigInteger;
import java.util.List;
import java.util.Random;

/** Promises 6 to 9: field, join, extend, compare. */
public final class PartsTest {
    private static final Due DUE = new Due("PartsTest");

    public static void main(String[] args) {
        Random chance = new Random(6);
        fields(chance);
        joins(chance);
        extensions(chance);
        comparisons(chance);
        refusedFields();
        refusedJoins();
        refusedExtensions();
        refusedComparisons();
        DUE.end();
    }

    private static void fields(Random chance) {
        for (int width = 1; width <= 512; width++) {
            WidthWords words = new WidthWords(width);
            BigInteger number = new BigInteger(width, chance).setBit(width - 1);
            int word = Numbers.put(words, number);
            fieldOf(words, word, number, 0, width - 1);
            fieldOf(words, word, number, width - 1, width - 1);
            fieldOf(words, word, number, 0, 0);
            for (int k = 0; k < 20; k++) {
                int from = chance.nextInt(width);
                fieldOf(words, word, number, from, from + chance.nextInt(width - from));
            }
            DUE.same("the word stays", Numbers.read(words, word), number);
        }
    }

    private static void fieldOf(WidthWords words, int word, BigInteger number, int from, int to) {
        int made = words.field(word, from, to);
        String call = "field(" + from + ", " + to + ") of " + number.toString(16);
        DUE.same(call + ": width", words.width(made), to - from + 1);
        DUE.same(call, Numbers.read(words, made), Numbers.cut(number.shiftRight(from), to - from + 1));
    }

    private static void joins(Random chance) {
        for (int k = 0; k < 5000; k++) {
            int upper = 1 + chance.nextInt(511);
            int lower = 1 + (k % 3 == 0 ? 511 - upper : chance.nextInt(512 - upper));
            WidthWords words = new WidthWords(512);
            BigInteger number = new BigInteger(512, chance);
            int whole = Numbers.put(words, number);
            int a = words.field(whole, 512 - upper, 511);
            int b = words.field(whole, 0, lower - 1);
            BigInteger due = Numbers.read(words, a).shiftLeft(lower).or(Numbers.read(words, b));
            int made = words.join(a, b);
            DUE.same("join's number", made, 3);
            DUE.same("join's width", words.width(made), upper + lower);
            DUE.same("join of " + upper + " and " + lower, Numbers.read(words, made), due);
        }
        WidthWords words = new WidthWords(256);
        int word = Numbers.put(words, BigInteger.valueOf(5));
        DUE.same("a word with itself", Numbers.read(words, words.join(word, word)), BigInteger.valueOf(5).shiftLeft(256).add(BigInteger.valueOf(5)));
    }

    private static void extensions(Random chance) {
        for (int width = 1; width <= 512; width++) {
            WidthWords words = new WidthWords(width);
            BigInteger below = new BigInteger(width, chance).setBit(width - 1);
            int first = Numbers.put(words, below);
            int second = Numbers.put(words, below.clearBit(width - 1));
            for (int bits : new int[] {width, Math.min(512, width + 1), width + chance.nextInt(513 - width), 512}) {
                extendOf(words, first, width, bits);
                extendOf(words, second, width, bits);
            }
        }
    }

    private static void extendOf(WidthWords words, int word, int width, int bits) {
        BigInteger number = Numbers.read(words, word);
        BigInteger signed = Numbers.cut(Numbers.withSign(number, width), bits);
        String call = "extend of " + number.toString(16) + " from " + width + " to " + bits;
        int plain = words.extend(word, bits, false);
        DUE.same(call, Numbers.read(words, plain), number);
        DUE.same(call + ": width", words.width(plain), bits);
        int made = words.extend(word, bits, true);
        DUE.same(call + " with sign", Numbers.read(words, made), signed);
        DUE.same(call + " with sign: width", words.width(made), bits);
    }

    private static void comparisons(Random chance) {
        for (int width : new int[] {1, 2, 7, 8, 31, 32, 33, 63, 64, 65, 127, 128, 129, 200, 511, 512}) {
            List<BigInteger> numbers = Numbers.interesting(width, chance, 5);
            for (BigInteger a : numbers) {
                for (BigInteger b : numbers) {
                    compareOf(width, a, b);
                }
            }
        }
    }

    private static void compareOf(int width, BigInteger a, BigInteger b) {
        WidthWords words = new WidthWords(width);
        int first = Numbers.put(words, a);
        int second = Numbers.put(words, b);
        String call = "compare of " + a.toString(16) + " and " + b.toString(16) + " in width " + width;
        DUE.same(call, words.compare(first, second, false), a.compareTo(b));
        int due = Numbers.withSign(a, width).compareTo(Numbers.withSign(b, width));
        DUE.same(call + " with sign", words.compare(first, second, true), due);
    }

    private static void refusedFields() {
        WidthWords words = new WidthWords(100);
        int word = words.word();
        int[][] wrong = {{-1, 5}, {0, 100}, {100, 100}, {6, 5}, {99, 0}, {0, -1}, {-5, -5}, {-1, 100},
            {Integer.MIN_VALUE, 3}, {3, Integer.MAX_VALUE}, {Integer.MAX_VALUE, Integer.MAX_VALUE},
            {Integer.MIN_VALUE, Integer.MIN_VALUE}, {Integer.MAX_VALUE, Integer.MIN_VALUE}};
        for (int[] pair : wrong) {
            String call = "field(0, " + pair[0] + ", " + pair[1] + ")";
            DUE.refused(call, IllegalArgumentException.class, () -> words.field(word, pair[0], pair[1]));
            DUE.refused(call + " of no word", ArrayIndexOutOfBoundsException.class, () -> words.field(1, pair[0], pair[1]));
        }
        DUE.refused("field of word -1", ArrayIndexOutOfBoundsException.class, () -> words.field(-1, 0, 0));
        DUE.same("no word was made", words.word(), 1);
    }

    private static void refusedJoins() {
        WidthWords words = new WidthWords(256);
        int half = words.word();
        int more = words.extend(half, 257, false);
        int most = words.extend(half, 512, false);
        DUE.refused("join of 513", IllegalArgumentException.class, () -> words.join(half, more));
        DUE.refused("join of 513 the other way", IllegalArgumentException.class, () -> words.join(more, half));
        DUE.refused("join of 1024", IllegalArgumentException.class, () -> words.join(most, most));
        for (int none : new int[] {-1, 3, 600, Integer.MIN_VALUE, Integer.MAX_VALUE}) {
            DUE.refused("join(" + none + ", 2)", ArrayIndexOutOfBoundsException.class, () -> words.join(none, most));
            DUE.refused("join(2, " + none + ")", ArrayIndexOutOfBoundsException.class, () -> words.join(most, none));
        }
        DUE.same("join of 512", words.width(words.join(half, half)), 512);
        DUE.same("no word was made", words.word(), 4);
    }

    private static void refusedExtensions() {
        WidthWords words = new WidthWords(40);
        int word = words.word();
        for (int bits : new int[] {39, 0, -1, 513, Integer.MIN_VALUE, Integer.MAX_VALUE}) {
            DUE.refused("extend(0, " + bits + ")", IllegalArgumentException.class, () -> words.extend(word, bits, true));
            DUE.refused("extend(1, " + bits + ")", ArrayIndexOutOfBoundsException.class, () -> words.extend(1, bits, true));
        }
        DUE.refused("extend(-1, 50)", ArrayIndexOutOfBoundsException.class, () -> words.extend(-1, 50, false));
        DUE.same("no word was made", words.word(), 1);
    }

    private static void refusedComparisons() {
        WidthWords words = new WidthWords(40);
        int word = words.word();
        int wide = words.extend(word, 41, false);
        for (boolean sign : new boolean[] {false, true}) {
            DUE.refused("compare of two widths", IllegalArgumentException.class, () -> words.compare(word, wide, sign));
            DUE.refused("compare without b", ArrayIndexOutOfBoundsException.class, () -> words.compare(word, 2, sign));
            DUE.refused("compare without a", ArrayIndexOutOfBoundsException.class, () -> words.compare(-1, wide, sign));
        }
    }
}
