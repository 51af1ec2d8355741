import java.math.BigInteger;
import java.util.Random;

/** Promises 1, 2, 3, 10, 11, 14 and 15: a new object, word, set, bit, limb, count, width. */
public final class WordTest {
    private static final Due DUE = new Due("WordTest");

    public static void main(String[] args) {
        newObjects();
        newWords();
        everyWidth();
        neighbours();
        DUE.end();
    }

    private static void newObjects() {
        int[][] widths = {{1, 1}, {2, 2}, {64, 64}, {511, 511}, {512, 512}, {513, 1}, {1024, 512}, {1025, 1},
            {0, 512}, {-1, 511}, {-510, 2}, {-511, 1}, {-512, 512}, {Integer.MAX_VALUE, 511}, {Integer.MIN_VALUE, 512},
            {Integer.MIN_VALUE + 1, 1}};
        for (int[] pair : widths) {
            WidthWords words = new WidthWords(pair[0]);
            String made = "new WidthWords(" + pair[0] + ")";
            DUE.refused(made + ": width(0)", ArrayIndexOutOfBoundsException.class, () -> words.width(0));
            for (int kind = 0; kind < 4; kind++) {
                DUE.same(made + ": flag(" + kind + ")", words.flag(kind), 0);
            }
            DUE.same(made + ": flags()", words.flags(), 0);
            DUE.same(made + ": word()", words.word(), 0);
            DUE.same(made + ": width(0)", words.width(0), pair[1]);
        }
    }

    private static void newWords() {
        WidthWords words = new WidthWords(130);
        for (int number = 0; number < 300; number++) {
            DUE.same("word()", words.word(), number);
        }
        for (int k = 0; k < 3; k++) {
            DUE.same("limb(299, " + k + ")", words.limb(299, k), 0);
        }
        DUE.same("count(299)", words.count(299), 0);
        DUE.same("width(299)", words.width(299), 130);
    }

    private static void everyWidth() {
        Random chance = new Random(1);
        for (int width = 1; width <= 512; width++) {
            WidthWords words = new WidthWords(width);
            int word = words.word();
            int limbs = Numbers.limbs(width);
            for (int k = 0; k < limbs; k++) {
                setLimb(words, width, k, -1L);
                setLimb(words, width, k, 0L);
                setLimb(words, width, k, 1L);
                setLimb(words, width, k, Long.MIN_VALUE);
                setLimb(words, width, k, chance.nextLong());
            }
            BigInteger number = new BigInteger(width, chance);
            Numbers.change(words, word, number);
            DUE.same("count in width " + width, words.count(word), number.bitCount());
            for (int k : new int[] {0, width / 3, width / 2, width - 1}) {
                DUE.same("bit " + k + " in width " + width, words.bit(word, k), number.testBit(k));
            }
            refusedIn(words, width, limbs);
            DUE.same("limbs in width " + width, Numbers.read(words, word), number);
        }
    }

    private static void setLimb(WidthWords words, int width, int k, long v) {
        int bits = Math.min(64, width - 64 * k);
        long kept = bits == 64 ? v : v & ((1L << bits) - 1);
        DUE.same("set(0, " + k + ", " + v + ") in width " + width, words.set(0, k, v), kept != v);
        DUE.same("limb(0, " + k + ") in width " + width, words.limb(0, k), kept);
    }

    private static void refusedIn(WidthWords words, int width, int limbs) {
        for (int k : new int[] {-1, limbs, limbs + 1, 8, 1 << 26, Integer.MAX_VALUE, Integer.MIN_VALUE}) {
            DUE.refused("limb(0, " + k + ") in width " + width, ArrayIndexOutOfBoundsException.class, () -> words.limb(0, k));
            DUE.refused("set(0, " + k + ", 0) in width " + width, ArrayIndexOutOfBoundsException.class, () -> words.set(0, k, 0) ? 1 : 0);
        }
        for (int k : new int[] {-1, width, 512, Integer.MAX_VALUE, Integer.MIN_VALUE}) {
            DUE.refused("bit(0, " + k + ") in width " + width, IllegalArgumentException.class, () -> words.bit(0, k) ? 1 : 0);
        }
        for (int word : new int[] {-1, 1, 599, 600, Integer.MAX_VALUE, Integer.MIN_VALUE}) {
            DUE.refused("limb(" + word + ", 0)", ArrayIndexOutOfBoundsException.class, () -> words.limb(word, 0));
            DUE.refused("set(" + word + ", 0, 1)", ArrayIndexOutOfBoundsException.class, () -> words.set(word, 0, 1) ? 1 : 0);
            DUE.refused("bit(" + word + ", -1)", ArrayIndexOutOfBoundsException.class, () -> words.bit(word, -1) ? 1 : 0);
            DUE.refused("count(" + word + ")", ArrayIndexOutOfBoundsException.class, () -> words.count(word));
            DUE.refused("width(" + word + ")", ArrayIndexOutOfBoundsException.class, () -> words.width(word));
        }
    }

    /** set() changes one word alone, and what was made of it stays as it is. */
    private static void neighbours() {
        WidthWords words = new WidthWords(512);
        BigInteger ones = Numbers.power(512).subtract(BigInteger.ONE);
        int first = Numbers.put(words, BigInteger.ZERO);
        int second = Numbers.put(words, ones);
        int third = Numbers.put(words, BigInteger.ZERO);
        int copy = words.op(14, second, second);
        Numbers.change(words, second, BigInteger.TEN);
        DUE.same("the word before", Numbers.read(words, first), BigInteger.ZERO);
        DUE.same("the word set", Numbers.read(words, second), BigInteger.TEN);
        DUE.same("the word behind", Numbers.read(words, third), BigInteger.ZERO);
        DUE.same("the word made of it", Numbers.read(words, copy), ones);
    }
}
