import java.math.BigInteger;

/** The boundary cases of promises 6 to 9, sentence by sentence, with answers reckoned by hand. */
public final class PartsEdgesTest {
    private static final Due DUE = new Due("PartsEdgesTest");
    private static final Class<ArrayIndexOutOfBoundsException> INDEX = ArrayIndexOutOfBoundsException.class;
    private static final Class<IllegalArgumentException> ARGUMENT = IllegalArgumentException.class;
    private static final int[] NO_WORDS = {-1, 4, 5, 599, 600, Integer.MAX_VALUE, Integer.MIN_VALUE};
    private static final int[] FAR = {Integer.MAX_VALUE, Integer.MIN_VALUE, Integer.MAX_VALUE - 63, 1 << 30};
    private static final BigInteger ONE = BigInteger.ONE;

    public static void main(String[] args) {
        fieldCountsBothEnds();
        fieldsRoundTheLimbs();
        fieldNotInTheWord();
        fieldFromAboveTo();
        fieldOfNoWord();
        joinOrder();
        joinRoundTheLimbs();
        joinFull();
        joinTooWide();
        joinOfNoWord();
        extendWithoutSign();
        extendWithSign();
        extendToTheSameWidth();
        extendTooNarrow();
        extendTooWide();
        extendOfNoWord();
        compareAnswers();
        compareWithSignAtTheEnds();
        compareLimbsWithoutSign();
        compareNotOneWidth();
        compareOfNoWord();
        DUE.end();
    }

    /** Words 0 and 1 of a width, with ones in word 0, words 2 and 3 of one bit; flags C, O, Z. */
    private static WidthWords prepared(int width) {
        WidthWords words = new WidthWords(width);
        words.word();
        words.word();
        Numbers.change(words, 0, Numbers.ones(width));
        words.field(0, 0, 0);
        words.op(0, 2, 2);
        return words;
    }

    private static String hex(WidthWords words, int word) {
        return words.width(word) + ":" + Numbers.read(words, word).toString(16);
    }

    private static String field(int width, String number, int from, int to) {
        WidthWords words = new WidthWords(width);
        int word = Numbers.put(words, new BigInteger(number, 16));
        int made = words.field(word, from, to);
        DUE.same("the field's number", made, 1);
        return hex(words, made);
    }

    private static void fieldCountsBothEnds() {
        DUE.about("Bits from to to of a word, both counted, as a new word");
        DUE.same("field of 1 bit, 0 to 0", field(1, "1", 0, 0), "1:1");
        DUE.same("field of a4, 0 to 0", field(8, "a4", 0, 0), "1:0");
        DUE.same("field of a4, 2 to 2", field(8, "a4", 2, 2), "1:1");
        DUE.same("field of a4, 7 to 7", field(8, "a4", 7, 7), "1:1");
        DUE.same("field of a4, 6 to 7", field(8, "a4", 6, 7), "2:2");
        DUE.same("field of a4, 0 to 7", field(8, "a4", 0, 7), "8:a4");
        DUE.same("field of a4, 2 to 5", field(8, "a4", 2, 5), "4:9");
        for (int width : new int[] {1, 63, 64, 65, 127, 128, 511, 512}) {
            String ones = Numbers.ones(width).toString(16);
            DUE.same("the whole of " + width, field(width, ones, 0, width - 1), width + ":" + ones);
            DUE.same("the highest bit of " + width, field(width, ones, width - 1, width - 1), "1:1");
            DUE.same("the lowest bit of " + width, field(width, ones, 0, 0), "1:1");
        }
    }

    private static void fieldsRoundTheLimbs() {
        DUE.about("Bits from to to of a word, both counted, as a new word");
        String number = "f123456789abcdef" + "8000000000000001" + "fedcba9876543210";
        DUE.same("field 0 to 63", field(192, number, 0, 63), "64:fedcba9876543210");
        DUE.same("field 64 to 127", field(192, number, 64, 127), "64:8000000000000001");
        DUE.same("field 128 to 191", field(192, number, 128, 191), "64:f123456789abcdef");
        DUE.same("field 63 to 64", field(192, number, 63, 64), "2:3");
        DUE.same("field 64 to 64", field(192, number, 64, 64), "1:1");
        DUE.same("field 65 to 126", field(192, number, 65, 126), "62:0");
        DUE.same("field 127 to 128", field(192, number, 127, 128), "2:3");
        DUE.same("field 60 to 131", field(192, number, 60, 131), "72:f" + "8000000000000001" + "f");
        DUE.same("field 4 to 187", field(192, number, 4, 187), "184:123456789abcdef" + "8000000000000001" + "fedcba987654321");
        DUE.same("field 0 to 64", field(192, number, 0, 64), "65:1fedcba9876543210");
    }

    private static void fieldNotInTheWord() {
        DUE.about("IllegalArgumentException, when they are not in it");
        for (int width : new int[] {1, 8, 63, 64, 65, 512}) {
            int[][] wrong = {{-1, 0}, {-1, -1}, {-1, width - 1}, {0, width}, {width - 1, width}, {width, width},
                {-1, width}, {0, 512}, {512, 512}, {0, 1000}};
            for (int[] c : wrong) {
                String call = "field(0, " + c[0] + ", " + c[1] + ") in width " + width;
                DUE.unchanged(call, prepared(width), ARGUMENT, x -> x.field(0, c[0], c[1]));
            }
            for (int far : FAR) {
                DUE.unchanged("field to " + far, prepared(width), ARGUMENT, x -> x.field(0, 0, far));
                DUE.unchanged("field from " + far, prepared(width), ARGUMENT, x -> x.field(0, far, 0));
                DUE.unchanged("field at " + far, prepared(width), ARGUMENT, x -> x.field(0, far, far));
            }
        }
        // The object's own width is not the word's.
        DUE.unchanged("field(2, 0, 1) of one bit", prepared(8), ARGUMENT, x -> x.field(2, 0, 1));
    }

    private static void fieldFromAboveTo() {
        DUE.about("or from is above to");
        int[][] wrong = {{1, 0}, {2, 1}, {7, 6}, {7, 0}, {64, 63}, {99, 98}, {99, 0}};
        for (int[] c : wrong) {
            DUE.unchanged("field(0, " + c[0] + ", " + c[1] + ")", prepared(100), ARGUMENT, x -> x.field(0, c[0], c[1]));
        }
    }

    private static void fieldOfNoWord() {
        DUE.about("ArrayIndexOutOfBoundsException (first), when there is no such word");
        for (int none : NO_WORDS) {
            DUE.unchanged("field(" + none + ", 0, 0)", prepared(8), INDEX, x -> x.field(none, 0, 0));
            DUE.unchanged("field(" + none + ", 1, 0)", prepared(8), INDEX, x -> x.field(none, 1, 0));
            DUE.unchanged("field(" + none + ", -1, 8)", prepared(8), INDEX, x -> x.field(none, -1, 8));
        }
    }

    /** The words are fields of two words of 512 bits, so that they have any width. */
    private static String join(int widthA, BigInteger a, int widthB, BigInteger b) {
        WidthWords words = new WidthWords(512);
        Numbers.put(words, a);
        Numbers.put(words, b);
        int made = words.join(words.field(0, 0, widthA - 1), words.field(1, 0, widthB - 1));
        DUE.same("the join's number", made, 4);
        return hex(words, made);
    }

    private static void joinOrder() {
        DUE.about("A new word with b's bits and a's above them");
        DUE.same("join of 1 and 0, a bit each", join(1, ONE, 1, BigInteger.ZERO), "2:2");
        DUE.same("join of 0 and 1, a bit each", join(1, BigInteger.ZERO, 1, ONE), "2:1");
        DUE.same("join of 12 and 345", join(8, BigInteger.valueOf(0x12), 12, BigInteger.valueOf(0x345)), "20:12345");
        DUE.same("join of 12 and 0", join(8, BigInteger.valueOf(0x12), 12, BigInteger.ZERO), "20:12000");
        DUE.same("join of 0 and 345", join(8, BigInteger.ZERO, 12, BigInteger.valueOf(0x345)), "20:345");
        WidthWords words = prepared(8);
        words.set(0, 0, 0xA5);
        DUE.same("a word with itself", hex(words, words.join(0, 0)), "16:a5a5");
    }

    private static void joinRoundTheLimbs() {
        DUE.about("A new word with b's bits and a's above them");
        for (int low : new int[] {1, 63, 64, 65, 127, 128, 129, 448}) {
            for (int high : new int[] {1, 63, 64}) {
                BigInteger a = Numbers.ones(high);
                BigInteger b = Numbers.ones(low);
                String width = high + low + ":";
                DUE.same("ones above noughts, " + high + " and " + low, join(high, a, low, BigInteger.ZERO), width + a.shiftLeft(low).toString(16));
                DUE.same("noughts above ones, " + high + " and " + low, join(high, BigInteger.ZERO, low, b), width + b.toString(16));
                DUE.same("ones above ones, " + high + " and " + low, join(high, a, low, b), width + Numbers.ones(high + low).toString(16));
            }
        }
    }

    private static void joinFull() {
        DUE.about("IllegalArgumentException, when it has more than 512");
        for (int high : new int[] {1, 63, 64, 65, 255, 256, 257, 448, 511}) {
            int low = 512 - high;
            DUE.same("join of " + high + " and " + low, join(high, ONE, low, ONE), "512:" + Numbers.power(low).add(ONE).toString(16));
            DUE.same("ones, " + high + " and " + low, join(high, Numbers.ones(high), low, Numbers.ones(low)), "512:" + Numbers.ones(512).toString(16));
        }
    }

    private static void joinTooWide() {
        DUE.about("IllegalArgumentException, when it has more than 512");
        for (int high : new int[] {1, 64, 256, 257, 449, 512}) {
            for (int more : new int[] {513, 514, 600, 1024}) {
                int low = more - high;
                if (low >= 1 && low <= 512) {
                    WidthWords words = new WidthWords(512);
                    words.word();
                    words.op(16, 0, 0);
                    int a = words.field(1, 0, high - 1);
                    int b = words.field(1, 0, low - 1);
                    DUE.unchanged("join of " + high + " and " + low, words, ARGUMENT, x -> x.join(a, b));
                    DUE.unchanged("join of " + low + " and " + high, words, ARGUMENT, x -> x.join(b, a));
                }
            }
        }
    }

    private static void joinOfNoWord() {
        DUE.about("ArrayIndexOutOfBoundsException (first), when there is no such word");
        for (int none : NO_WORDS) {
            DUE.unchanged("join(" + none + ", 2)", prepared(512), INDEX, x -> x.join(none, 2));
            DUE.unchanged("join(2, " + none + ")", prepared(512), INDEX, x -> x.join(2, none));
            DUE.unchanged("join(" + none + ", 0)", prepared(512), INDEX, x -> x.join(none, 0));
            DUE.unchanged("join(0, " + none + ")", prepared(512), INDEX, x -> x.join(0, none));
        }
    }

    private static String extend(int width, BigInteger number, int bits, boolean sign) {
        WidthWords words = new WidthWords(width);
        Numbers.put(words, number);
        int made = words.extend(0, bits, sign);
        DUE.same("the extension's number", made, 1);
        return hex(words, made);
    }

    private static final int[][] WIDER = {{1, 2}, {1, 64}, {1, 512}, {8, 9}, {63, 64}, {63, 65}, {64, 65}, {64, 128},
        {65, 66}, {100, 128}, {127, 129}, {448, 449}, {448, 512}, {511, 512}};

    private static void extendWithoutSign() {
        DUE.about("A new, wider word with a word's value, ... without sign");
        for (int[] c : WIDER) {
            BigInteger ones = Numbers.ones(c[0]);
            BigInteger top = Numbers.power(c[0] - 1);
            String width = c[1] + ":";
            DUE.same("ones from " + c[0] + " to " + c[1], extend(c[0], ones, c[1], false), width + ones.toString(16));
            DUE.same("the highest from " + c[0] + " to " + c[1], extend(c[0], top, c[1], false), width + top.toString(16));
            DUE.same("0 from " + c[0] + " to " + c[1], extend(c[0], BigInteger.ZERO, c[1], false), width + "0");
        }
    }

    private static void extendWithSign() {
        DUE.about("A new, wider word with a word's value, with ... sign");
        for (int[] c : WIDER) {
            BigInteger top = Numbers.power(c[0] - 1);
            BigInteger below = top.subtract(ONE);
            String width = c[1] + ":";
            DUE.same("-1 from " + c[0] + " to " + c[1], extend(c[0], Numbers.ones(c[0]), c[1], true), width + Numbers.ones(c[1]).toString(16));
            DUE.same("the least from " + c[0] + " to " + c[1], extend(c[0], top, c[1], true), width + Numbers.power(c[1]).subtract(top).toString(16));
            DUE.same("the greatest from " + c[0] + " to " + c[1], extend(c[0], below, c[1], true), width + below.toString(16));
            DUE.same("0 from " + c[0] + " to " + c[1], extend(c[0], BigInteger.ZERO, c[1], true), width + "0");
        }
    }

    private static void extendToTheSameWidth() {
        DUE.about("IllegalArgumentException, when bits are below its width");
        for (int width : new int[] {1, 8, 63, 64, 65, 511, 512}) {
            for (boolean sign : new boolean[] {false, true}) {
                String ones = Numbers.ones(width).toString(16);
                DUE.same("to the same " + width, extend(width, Numbers.ones(width), width, sign), width + ":" + ones);
            }
        }
    }

    private static void extendTooNarrow() {
        DUE.about("IllegalArgumentException, when bits are below its width");
        for (int width : new int[] {1, 2, 8, 64, 65, 512}) {
            for (int bits : new int[] {width - 1, 0, -1, -512, Integer.MIN_VALUE}) {
                DUE.unchanged("from " + width + " to " + bits, prepared(width), ARGUMENT, x -> x.extend(0, bits, false));
                DUE.unchanged("from " + width + " to " + bits + " with sign", prepared(width), ARGUMENT, x -> x.extend(0, bits, true));
            }
        }
        // The object's own width is not the word's.
        DUE.same("one bit to two", prepared(8).extend(2, 2, true), 4);
    }

    private static void extendTooWide() {
        DUE.about("or above 512");
        for (int width : new int[] {1, 64, 511, 512}) {
            for (int bits : new int[] {513, 514, 1024, Integer.MAX_VALUE}) {
                DUE.unchanged("from " + width + " to " + bits, prepared(width), ARGUMENT, x -> x.extend(0, bits, false));
                DUE.unchanged("from " + width + " to " + bits + " with sign", prepared(width), ARGUMENT, x -> x.extend(0, bits, true));
            }
        }
    }

    private static void extendOfNoWord() {
        DUE.about("ArrayIndexOutOfBoundsException (first), when there is no such word");
        for (int none : NO_WORDS) {
            DUE.unchanged("extend(" + none + ", 9)", prepared(8), INDEX, x -> x.extend(none, 9, true));
            DUE.unchanged("extend(" + none + ", 7)", prepared(8), INDEX, x -> x.extend(none, 7, false));
            DUE.unchanged("extend(" + none + ", 513)", prepared(8), INDEX, x -> x.extend(none, 513, true));
        }
    }

    /** Both answers, without and with sign, and those of the words the other way round. */
    private static void compare(int width, BigInteger a, BigInteger b, int without, int with) {
        WidthWords words = new WidthWords(width);
        Numbers.put(words, a);
        Numbers.put(words, b);
        String call = "compare of " + a.toString(16) + " and " + b.toString(16) + " in width " + width;
        DUE.same(call, words.compare(0, 1, false), without);
        DUE.same(call + " with sign", words.compare(0, 1, true), with);
        DUE.same(call + " the other way round", words.compare(1, 0, false), -without);
        DUE.same(call + " the other way round with sign", words.compare(1, 0, true), -with);
    }

    private static final int[] WIDTHS = {2, 8, 31, 32, 33, 63, 64, 65, 127, 128, 129, 511, 512};

    private static void compareAnswers() {
        DUE.about("-1 when a is below b, 0 when both are alike, else 1");
        compare(1, BigInteger.ZERO, BigInteger.ZERO, 0, 0);
        compare(1, ONE, ONE, 0, 0);
        for (int width : WIDTHS) {
            BigInteger top = Numbers.power(width - 1);
            compare(width, BigInteger.ZERO, BigInteger.ZERO, 0, 0);
            compare(width, Numbers.ones(width), Numbers.ones(width), 0, 0);
            compare(width, top, top, 0, 0);
            compare(width, top.subtract(ONE), BigInteger.ZERO, 1, 1);
            compare(width, Numbers.ones(width), Numbers.ones(width).subtract(ONE), 1, 1);
            WidthWords words = prepared(width);
            DUE.same("a word with itself", words.compare(0, 0, true), 0);
            DUE.same("a word with itself without sign", words.compare(0, 0, false), 0);
        }
    }

    private static void compareWithSignAtTheEnds() {
        DUE.about("WITH SIGN the highest one counts less its power");
        compare(1, BigInteger.ZERO, ONE, -1, 1);
        for (int width : WIDTHS) {
            BigInteger top = Numbers.power(width - 1);
            BigInteger ones = Numbers.ones(width);
            compare(width, BigInteger.ZERO, ones, -1, 1);
            compare(width, BigInteger.ZERO, top, -1, 1);
            compare(width, top.subtract(ONE), top, -1, 1);
            compare(width, top, ones, -1, -1);
            compare(width, top, top.add(ONE), -1, -1);
        }
    }

    private static void compareLimbsWithoutSign() {
        DUE.about("with or without sign");
        // A limb below the highest has no sign of its own.
        compare(65, Numbers.power(63), ONE, 1, 1);
        compare(65, Numbers.power(64).add(Numbers.power(63)), Numbers.power(64).add(ONE), 1, 1);
        compare(128, Numbers.power(63), Numbers.power(62), 1, 1);
        compare(512, Numbers.power(447), Numbers.power(446), 1, 1);
        compare(512, Numbers.power(448), Numbers.power(447), 1, 1);
        compare(512, Numbers.power(511).add(Numbers.power(63)), Numbers.power(511).add(ONE), 1, 1);
        // The higher limb counts first.
        compare(128, Numbers.power(64), Numbers.ones(64), 1, 1);
        compare(512, Numbers.power(448), Numbers.ones(448), 1, 1);
    }

    private static void compareNotOneWidth() {
        DUE.about("IllegalArgumentException, when they have not one width");
        for (boolean sign : new boolean[] {false, true}) {
            for (int bits : new int[] {9, 64, 512}) {
                WidthWords words = prepared(8);
                int wide = words.extend(0, bits, sign);
                DUE.unchanged("compare of 8 and " + bits, words, ARGUMENT, x -> x.compare(0, wide, sign));
                DUE.unchanged("compare of " + bits + " and 8", words, ARGUMENT, x -> x.compare(wide, 0, sign));
            }
            WidthWords words = prepared(8);
            int same = words.extend(2, 8, false);
            DUE.same("words of one width, made in two ways", words.compare(1, same, sign), -1);
        }
    }

    private static void compareOfNoWord() {
        DUE.about("ArrayIndexOutOfBoundsException (first), when there is no such word");
        for (int none : NO_WORDS) {
            for (boolean sign : new boolean[] {false, true}) {
                DUE.unchanged("compare(" + none + ", 0)", prepared(8), INDEX, x -> x.compare(none, 0, sign));
                DUE.unchanged("compare(0, " + none + ")", prepared(8), INDEX, x -> x.compare(0, none, sign));
                DUE.unchanged("compare(" + none + ", " + none + ")", prepared(8), INDEX, x -> x.compare(none, none, sign));
            }
        }
    }
}
