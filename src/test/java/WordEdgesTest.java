import java.math.BigInteger;

/** The boundary cases of promises 1, 2, 3, 10, 11, 14, 15 and of the terms, sentence by sentence. */
public final class WordEdgesTest {
    private static final Due DUE = new Due("WordEdgesTest");
    private static final Class<ArrayIndexOutOfBoundsException> INDEX = ArrayIndexOutOfBoundsException.class;
    private static final Class<IllegalArgumentException> ARGUMENT = IllegalArgumentException.class;
    private static final int[] NO_WORDS = {-1, 2, 3, 599, 600, 601, Integer.MAX_VALUE, Integer.MIN_VALUE};

    public static void main(String[] args) {
        widthOfNewWords();
        widthGoesRoundAtBothEnds();
        newObjectHasNoWords();
        newObjectHasNoFlags();
        newWordIsNought();
        lastOfAllCalls();
        setCutsAtTheWidth();
        setAnswersWhatWasCutOff();
        setIsAnotherLimbAlone();
        setRefusesLimbs();
        setRefusesWords();
        bitsAreNumberedFromNought();
        bitRefuses();
        limbsOfAWord();
        limbHasNoOtherBits();
        limbRefuses();
        countAtTheEnds();
        countAndWidthRefuse();
        widthOfWhateverWasMade();
        wordsNeverChangeButBySet();
        operationsMakeWordsBehindTheOthers();
        DUE.end();
    }

    private static WidthWords two(int width) {
        WidthWords words = new WidthWords(width);
        words.word();
        words.word();
        return words;
    }

    private static int widthFrom(int bits) {
        WidthWords words = new WidthWords(bits);
        return words.width(words.word());
    }

    private static void widthOfNewWords() {
        DUE.about("new ones have 1 + (bits - 1) modulo 512 bits");
        for (int bits = 1; bits <= 512; bits++) {
            DUE.same("the width from " + bits, widthFrom(bits), bits);
        }
        DUE.same("the width from 513", widthFrom(513), 1);
        DUE.same("the width from 1024", widthFrom(1024), 512);
        DUE.same("the width from 1025", widthFrom(1025), 1);
        DUE.same("the width from 2147483647", widthFrom(2147483647), 511);
    }

    private static void widthGoesRoundAtBothEnds() {
        DUE.about("(the rest not below 0)");
        DUE.same("the width from 0", widthFrom(0), 512);
        DUE.same("the width from -1", widthFrom(-1), 511);
        DUE.same("the width from -510", widthFrom(-510), 2);
        DUE.same("the width from -511", widthFrom(-511), 1);
        DUE.same("the width from -512", widthFrom(-512), 512);
        DUE.same("the width from -2147483647", widthFrom(-2147483647), 1);
        DUE.same("the width from -2147483648", widthFrom(-2147483648), 512);
    }

    private static void newObjectHasNoWords() {
        DUE.about("No words");
        for (int word : new int[] {0, 1, -1}) {
            DUE.unchanged("set", new WidthWords(8), INDEX, x -> x.set(word, 0, 1) ? 1 : 0);
            DUE.unchanged("op", new WidthWords(8), INDEX, x -> x.op(0, word, word));
            DUE.unchanged("op of one word", new WidthWords(8), INDEX, x -> x.op(16, word, word));
            DUE.unchanged("field", new WidthWords(8), INDEX, x -> x.field(word, 0, 0));
            DUE.unchanged("join", new WidthWords(8), INDEX, x -> x.join(word, word));
            DUE.unchanged("extend", new WidthWords(8), INDEX, x -> x.extend(word, 8, false));
            DUE.unchanged("compare", new WidthWords(8), INDEX, x -> x.compare(word, word, false));
            DUE.unchanged("bit", new WidthWords(8), INDEX, x -> x.bit(word, 0) ? 1 : 0);
            DUE.unchanged("limb", new WidthWords(8), INDEX, x -> x.limb(word, 0));
            DUE.unchanged("real", new WidthWords(8), INDEX, x -> x.real(0, word, word, 0));
            DUE.unchanged("count", new WidthWords(8), INDEX, x -> x.count(word));
            DUE.unchanged("width", new WidthWords(8), INDEX, x -> x.width(word));
        }
        DUE.same("the first word's number", new WidthWords(8).word(), 0);
    }

    private static void newObjectHasNoFlags() {
        DUE.about("No flags");
        DUE.same("the flags of a new object", State.of(new WidthWords(8)), "0000 0");
        // A word of noughts is not yet an operation's answer: ZERO is 0.
        DUE.same("the flags after word()", State.of(two(8)), "8:0 8:0 0000 0");
    }

    private static void newWordIsNought() {
        DUE.about("A new word of the width told, all bits 0: its number");
        for (int width : new int[] {1, 63, 64, 65, 512}) {
            WidthWords words = new WidthWords(width);
            BigInteger ones = Numbers.ones(width);
            DUE.same("the first number", words.word(), 0);
            Numbers.change(words, 0, ones);
            words.op(16, words.word(), 0);
            DUE.same("the next number", words.word(), 3);
            DUE.same("a new word behind one of ones", Numbers.read(words, 3), BigInteger.ZERO);
            DUE.same("the width of a new word", words.width(3), width);
            DUE.same("its neighbour", Numbers.read(words, 2), ones);
        }
    }

    private static void lastOfAllCalls() {
        DUE.about("An object is used for at most 512 calls");
        WidthWords words = new WidthWords(512);
        words.word();
        int latest = words.op(16, 0, 0);
        for (int call = 3; call <= 510; call++) {
            latest = words.op(2, latest, latest - 1);
        }
        DUE.same("the 510th call's word", latest, 509);
        DUE.same("the 511th call", words.field(1, 511, 511), 510);
        DUE.same("the 512th call", words.limb(510, 0), 1);
    }

    private static void setCutsAtTheWidth() {
        DUE.about("A limb of a word is another one, cut to the word's bits");
        long[][] cases = {
            // width, limb, v, the limb then
            {1, 0, -1, 1}, {1, 0, 2, 0}, {8, 0, 0x1FF, 0xFF}, {63, 0, -1, Long.MAX_VALUE}, {63, 0, Long.MIN_VALUE, 0},
            {64, 0, -1, -1}, {64, 0, Long.MIN_VALUE, Long.MIN_VALUE}, {65, 0, -1, -1}, {65, 1, -1, 1}, {65, 1, 2, 0},
            {100, 1, 1L << 35, 1L << 35}, {100, 1, 1L << 36, 0}, {127, 1, -1, Long.MAX_VALUE}, {128, 1, -1, -1},
            {449, 7, 3, 1}, {511, 7, -1, Long.MAX_VALUE}, {512, 7, -1, -1}, {512, 0, 5, 5},
        };
        for (long[] c : cases) {
            WidthWords words = two((int) c[0]);
            words.set(1, (int) c[1], c[2]);
            DUE.same("set(1, " + c[1] + ", " + c[2] + ") in width " + c[0], words.limb(1, (int) c[1]), c[3]);
        }
    }

    private static void setAnswersWhatWasCutOff() {
        DUE.about("whether bits that are 1 were cut off");
        long[][] cases = {
            // width, limb, v, whether
            {1, 0, 0, 0}, {1, 0, 1, 0}, {1, 0, 2, 1}, {1, 0, 3, 1}, {63, 0, Long.MAX_VALUE, 0}, {63, 0, Long.MIN_VALUE, 1},
            {64, 0, -1, 0}, {65, 0, -1, 0}, {65, 1, 1, 0}, {65, 1, 2, 1}, {65, 1, Long.MIN_VALUE, 1}, {65, 1, 0, 0},
            {511, 7, Long.MAX_VALUE, 0}, {511, 7, Long.MIN_VALUE, 1}, {512, 7, -1, 0},
        };
        for (long[] c : cases) {
            WidthWords words = two((int) c[0]);
            DUE.same("set(0, " + c[1] + ", " + c[2] + ") in width " + c[0], words.set(0, (int) c[1], c[2]), c[3] == 1);
        }
        // What was there before does not count, only what comes.
        WidthWords words = two(4);
        words.set(0, 0, -1);
        DUE.same("set(0, 0, 0) after -1", words.set(0, 0, 0), false);
    }

    private static void setIsAnotherLimbAlone() {
        DUE.about("A limb of a word is another one");
        WidthWords words = two(192);
        for (int k = 0; k < 3; k++) {
            words.set(0, k, -1);
        }
        words.set(0, 1, 2);
        DUE.same("the limb below", words.limb(0, 0), -1);
        DUE.same("the limb", words.limb(0, 1), 2);
        DUE.same("the limb above", words.limb(0, 2), -1);
        DUE.same("the next word", Numbers.read(words, 1), BigInteger.ZERO);
        words.set(0, 1, 4);
        DUE.same("the limb, set again", words.limb(0, 1), 4);
    }

    /** Pairs of a width and the number of its limbs: one bit more makes a limb more. */
    private static final int[][] LIMBS = {{1, 1}, {63, 1}, {64, 1}, {65, 2}, {128, 2}, {129, 3}, {448, 7}, {449, 8}, {511, 8}, {512, 8}};

    private static void setRefusesLimbs() {
        DUE.about("ArrayIndexOutOfBoundsException, when there is no such limb");
        for (int[] pair : LIMBS) {
            for (int limb : new int[] {-1, pair[1], 8, 9, 1 << 26, Integer.MAX_VALUE, Integer.MIN_VALUE}) {
                DUE.unchanged("set(1, " + limb + ", 1) in width " + pair[0], two(pair[0]), INDEX, x -> x.set(1, limb, 1) ? 1 : 0);
            }
            DUE.same("set of the last limb in width " + pair[0], two(pair[0]).set(1, pair[1] - 1, 1), false);
        }
    }

    private static void setRefusesWords() {
        DUE.about("ArrayIndexOutOfBoundsException (first), when there is no such word");
        for (int word : NO_WORDS) {
            DUE.unchanged("set(" + word + ", 0, 1)", two(64), INDEX, x -> x.set(word, 0, 1) ? 1 : 0);
        }
    }

    private static void bitsAreNumberedFromNought() {
        DUE.about("its bits are numbered from 0 (the lowest one)");
        for (int width : new int[] {1, 2, 63, 64, 65, 128, 511, 512}) {
            for (int one : new int[] {0, 1, 62, 63, 64, 65, 127, 128, 510, 511}) {
                if (one < width) {
                    WidthWords words = two(width);
                    words.set(1, one / 64, 1L << one % 64);
                    for (int k = 0; k < width; k += k < 130 || k > 505 ? 1 : 25) {
                        DUE.same("bit " + k + " of 2 to the power " + one + " in width " + width, words.bit(1, k), k == one);
                    }
                }
            }
        }
    }

    private static void bitRefuses() {
        DUE.about("Bit k of a word. IllegalArgumentException, when it has none");
        for (int width : new int[] {1, 8, 63, 64, 65, 511, 512}) {
            for (int k : new int[] {-1, -64, width, width + 1, 512, 576, Integer.MAX_VALUE, Integer.MIN_VALUE}) {
                DUE.unchanged("bit(1, " + k + ") in width " + width, two(width), ARGUMENT, x -> x.bit(1, k) ? 1 : 0);
                DUE.unchanged("bit(2, " + k + ") in width " + width, two(width), INDEX, x -> x.bit(2, k) ? 1 : 0);
            }
            DUE.same("the highest bit in width " + width, two(width).bit(1, width - 1), false);
        }
        for (int word : NO_WORDS) {
            DUE.unchanged("bit(" + word + ", 0)", two(8), INDEX, x -> x.bit(word, 0) ? 1 : 0);
        }
    }

    private static void limbsOfAWord() {
        DUE.about("LIMB k has its bits 64 * k to 64 * k + 63");
        WidthWords words = new WidthWords(512);
        words.word();
        for (int k = 0; k < 8; k++) {
            words.set(0, k, 100 + k);
        }
        for (int k = 0; k < 8; k++) {
            DUE.same("limb(0, " + k + ")", words.limb(0, k), 100 + k);
            int field = words.field(0, 64 * k, 64 * k + 63);
            DUE.same("bits " + 64 * k + " and 63 more", words.limb(field, 0), 100 + k);
        }
    }

    private static void limbHasNoOtherBits() {
        DUE.about("(those that it does not have are 0)");
        for (int width : new int[] {1, 7, 63, 65, 100, 127, 449, 511}) {
            WidthWords words = two(width);
            int highest = (width - 1) / 64;
            long due = (1L << width - 64 * highest) - 1;
            int ones = words.op(16, 0, 0);
            words.set(1, 0, 1);
            int less = words.op(1, 0, 1);
            int both = words.op(14, ones, less);
            int down = words.op(10, ones, 1);
            int copy = words.extend(ones, width, true);
            int field = words.field(ones, 0, width - 1);
            for (int word : new int[] {ones, less, both, down, copy, field}) {
                DUE.same("the highest limb of word " + word + " in width " + width, words.limb(word, highest), due);
                DUE.same("the ones of word " + word + " in width " + width, words.count(word), width);
            }
        }
    }

    private static void limbRefuses() {
        DUE.about("Limb k of a word. ArrayIndexOutOfBoundsException, when there is none");
        for (int[] pair : LIMBS) {
            for (int k : new int[] {-1, pair[1], 8, 9, 1 << 26, Integer.MAX_VALUE, Integer.MIN_VALUE}) {
                DUE.unchanged("limb(0, " + k + ") in width " + pair[0], two(pair[0]), INDEX, x -> x.limb(0, k));
            }
            DUE.same("the last limb in width " + pair[0], two(pair[0]).limb(0, pair[1] - 1), 0);
        }
        for (int word : NO_WORDS) {
            DUE.unchanged("limb(" + word + ", 0)", two(512), INDEX, x -> x.limb(word, 0));
        }
    }

    private static void countAtTheEnds() {
        DUE.about("How many bits of a word are 1");
        for (int width = 1; width <= 512; width++) {
            WidthWords words = two(width);
            DUE.same("count of 0 in width " + width, words.count(0), 0);
            DUE.same("count of all ones in width " + width, words.count(words.op(16, 0, 0)), width);
            Numbers.change(words, 1, Numbers.power(width - 1));
            DUE.same("count of the highest bit in width " + width, words.count(1), 1);
            DUE.same("count of its neighbour in width " + width, words.count(0), 0);
        }
    }

    private static void countAndWidthRefuse() {
        DUE.about("ArrayIndexOutOfBoundsException (first), when there is no such word");
        for (int word : NO_WORDS) {
            DUE.unchanged("count(" + word + ")", two(16), INDEX, x -> x.count(word));
            DUE.unchanged("width(" + word + ")", two(16), INDEX, x -> x.width(word));
        }
    }

    private static void widthOfWhateverWasMade() {
        DUE.about("A word's width");
        WidthWords words = two(32);
        DUE.same("of a sum", words.width(words.op(0, 0, 1)), 32);
        DUE.same("of a number with a point", words.width(words.real(0, 0, 1, 0)), 32);
        int one = words.field(0, 31, 31);
        DUE.same("of a field of one bit", words.width(one), 1);
        DUE.same("of an operation of such fields", words.width(words.op(16, one, 0)), 1);
        int most = words.extend(one, 512, true);
        DUE.same("of the widest one", words.width(most), 512);
        DUE.same("of an operation of the widest ones", words.width(words.op(2, most, most)), 512);
        DUE.same("of a join", words.width(words.join(one, 0)), 33);
        DUE.same("of a new word then", words.width(words.word()), 32);
    }

    private static void wordsNeverChangeButBySet() {
        DUE.about("never change but by set()");
        for (int width : new int[] {8, 16, 32, 64, 512}) {
            WidthWords words = two(width);
            BigInteger a = Numbers.ones(width).subtract(BigInteger.valueOf(3));
            BigInteger b = Numbers.power(width - 1).add(BigInteger.valueOf(5));
            Numbers.change(words, 0, a);
            Numbers.change(words, 1, b);
            for (int kind = 0; kind <= 18; kind++) {
                words.op(kind, 0, 1);
                words.op(kind, 1, 0);
                DUE.same("a after op(" + kind + ")", Numbers.read(words, 0), a);
                DUE.same("b after op(" + kind + ")", Numbers.read(words, 1), b);
            }
            words.field(0, 1, 3);
            words.extend(0, 512, true);
            words.compare(0, 1, true);
            if (width < 512) {
                words.join(0, 1);
            }
            if (width <= 32) {
                words.real(1, 0, 1, 2);
            }
            DUE.same("a at the end", Numbers.read(words, 0), a);
            DUE.same("b at the end", Numbers.read(words, 1), b);
        }
        WidthWords words = two(100);
        int copy = words.op(14, 0, 0);
        int wide = words.extend(0, 200, false);
        words.set(0, 0, 77);
        DUE.same("an answer after its word was set", words.limb(copy, 0), 0);
        DUE.same("a wider one after its word was set", words.limb(wide, 0), 0);
        words.set(copy, 1, 9);
        DUE.same("the word after its copy was set", words.limb(0, 1), 0);
    }

    private static void operationsMakeWordsBehindTheOthers() {
        DUE.about("Operations make a new word behind the others");
        WidthWords words = two(8);
        DUE.same("op", words.op(0, 0, 1), 2);
        DUE.same("field", words.field(0, 0, 3), 3);
        DUE.same("join", words.join(0, 1), 4);
        DUE.same("extend", words.extend(0, 8, false), 5);
        DUE.same("real", words.real(0, 0, 1, 0), 6);
        words.compare(0, 1, false);
        words.set(0, 0, 1);
        words.count(0);
        DUE.same("word", words.word(), 7);
    }
}
