import java.math.BigInteger;

/**
 * The boundary cases of promises 4 and 5, sentence by sentence, with answers reckoned by hand.
 * The flags that are due are told by their letters: C, O, Z, N.
 */
public final class OpEdgesTest {
    private static final Due DUE = new Due("OpEdgesTest");
    private static final Class<ArrayIndexOutOfBoundsException> INDEX = ArrayIndexOutOfBoundsException.class;
    private static final Class<IllegalArgumentException> ARGUMENT = IllegalArgumentException.class;
    private static final int[] WIDTHS = {2, 3, 4, 7, 8, 9, 31, 32, 33, 63, 64, 65, 96, 127, 128, 129, 448, 449, 511, 512};
    private static final BigInteger NIL = BigInteger.ZERO;
    private static final BigInteger ONE = BigInteger.ONE;
    private static final BigInteger TWO = BigInteger.TWO;

    public static void main(String[] args) {
        narrowest();
        for (int width : WIDTHS) {
            sumsAreCut(width);
            carryOfSums(width);
            overflowOfSums(width);
            differencesAreCut(width);
            carryOfDifferences(width);
            overflowOfDifferences(width);
            productsAreCut(width);
            upperHalves(width);
            carryOfProducts(width);
            overflowOfProducts(width);
            quotientsWithoutSign(width);
            leastBySignedMinusOne(width);
            movedByNought(width);
            movedByTheWidth(width);
            movedBeyondTheWidth(width);
            lastBitOut(width);
            highestBitComesIn(width);
            turnedRoundTheWidth(width);
            bitsReversed(width);
        }
        for (int width : new int[] {5, 8, 63, 64, 65, 128, 512}) {
            signedQuotientsTowardsNought(width);
        }
        countWithoutSign();
        bytesReversed();
        zeroAndNegative();
        elseNoCarryAndNoOverflow();
        aWordWithItself();
        kindsThatAreNone();
        notOneWidth();
        loneKindsDoNotLookAtB();
        noWholeBytes();
        byNought();
        noSuchWord();
        firstOneTold();
        flagKinds();
        flagsOfTheLatest();
        DUE.end();
    }

    private static BigInteger top(int width) {
        return Numbers.power(width - 1);
    }

    private static BigInteger ones(int width) {
        return Numbers.ones(width);
    }

    private static BigInteger big(long number) {
        return BigInteger.valueOf(number);
    }

    /**
     * An operation behind one with C, O, Z alone and behind one with N alone: both must give way.
     * Products and quotients of ones stand before it, and it is asked twice, so that nothing that
     * an operation leaves behind inside the object may come into the next one's answer.
     */
    private static void due(int kind, int width, BigInteger a, BigInteger b, BigInteger answer, String flags) {
        for (int before = 0; before < 2; before++) {
            WidthWords words = new WidthWords(width);
            int first = Numbers.put(words, Numbers.cut(a, width));
            int second = Numbers.put(words, Numbers.cut(b, width));
            int third = Numbers.put(words, before == 0 ? top(width) : NIL);
            int fourth = words.op(16, Numbers.put(words, NIL), 0);
            words.op(2, fourth, fourth);
            words.op(4, fourth, fourth);
            words.op(before == 0 ? 0 : 16, third, third);
            String call = "op(" + kind + ") of " + a.toString(16) + " and " + b.toString(16) + " in width " + width;
            int made = words.op(kind, first, second);
            DUE.same(call + ": its number", made, 8);
            DUE.same(call, Numbers.read(words, made).toString(16), Numbers.cut(answer, width).toString(16));
            DUE.same(call + ": its width", words.width(made), width);
            for (int flag = 0; flag < 4; flag++) {
                boolean due = flags.indexOf("COZN".charAt(flag)) >= 0;
                DUE.same(call + ": " + "COZN".charAt(flag), words.flag(flag), due ? 1 : 0);
            }
            DUE.same(call + ", asked again", Numbers.read(words, words.op(kind, first, second)), Numbers.read(words, made));
        }
    }

    /** In one bit 1 is the highest one, too: with sign it is -1. */
    private static void narrowest() {
        DUE.about("Words of 1 to 512 bits");
        String[] cases = {
            // for each kind the answers and flags of 0 0, 0 1, 1 0, 1 1; a dash where the call is refused
            "0Z 1N 1N 0COZ", "0Z 1CON 1N 0Z", "0Z 0Z 0Z 1ON", "0Z 0Z 0Z 0Z", "- 0Z - 1N", "- 0Z - 0Z",
            "- 0Z - 1ON", "- 0Z - 0Z", "0Z 0Z 1N 0CZ", "0Z 0Z 1N 0CZ", "0Z 0Z 1N 1CN", "0Z 0Z 1N 1N",
            "0Z 0Z 1N 1N", "0Z 0Z 0Z 1N", "0Z 1N 1N 1N", "0Z 1N 1N 0Z", "1N 1N 0Z 0Z", "0Z 0Z 1N 1N", "- - - -"};
        for (int kind = 0; kind < cases.length; kind++) {
            String[] row = cases[kind].split(" ");
            for (int pair = 0; pair < 4; pair++) {
                if (!row[pair].equals("-")) {
                    due(kind, 1, big(pair >> 1), big(pair & 1), big(row[pair].charAt(0) - '0'), row[pair].substring(1));
                }
            }
        }
    }

    private static void sumsAreCut(int w) {
        DUE.about("0 a + b ... cut to w bits");
        due(0, w, ones(w), ONE, NIL, "CZ");
        due(0, w, ONE, ones(w), NIL, "CZ");
        due(0, w, ones(w), ones(w), ones(w).subtract(ONE), "CN");
        due(0, w, NIL, NIL, NIL, "Z");
    }

    private static void carryOfSums(int w) {
        DUE.about("CARRY: of 0 the sum without sign has bit w");
        due(0, w, ones(w), NIL, ones(w), "N");
        due(0, w, ones(w).subtract(ONE), ONE, ones(w), "N");
        due(0, w, top(w), top(w), NIL, "COZ");
        due(0, w, top(w), top(w).subtract(ONE), ones(w), "N");
        due(0, w, top(w), ones(w), top(w).subtract(ONE), "CO");
    }

    private static void overflowOfSums(int w) {
        DUE.about("OVERFLOW: of 0 ... what it is with sign does not fit into w bits");
        due(0, w, top(w).subtract(ONE), ONE, top(w), "ON");
        due(0, w, top(w).subtract(ONE), NIL, top(w).subtract(ONE), "");
        due(0, w, top(w), NIL, top(w), "N");
        due(0, w, top(w).add(ONE), ones(w), top(w), "CN");
        due(0, w, top(w).subtract(ONE), ones(w), top(w).subtract(TWO), w == 2 ? "CZ" : "C");
    }

    private static void differencesAreCut(int w) {
        DUE.about("1 a - b ... cut to w bits");
        due(1, w, NIL, ONE, ones(w), "CN");
        due(1, w, NIL, ones(w), ONE, "C");
        due(1, w, ones(w), ones(w), NIL, "Z");
        due(1, w, NIL, NIL, NIL, "Z");
    }

    private static void carryOfDifferences(int w) {
        DUE.about("CARRY: ... of 1 a is below b without sign");
        due(1, w, ones(w).subtract(ONE), ones(w), ones(w), "CN");
        due(1, w, ones(w), ones(w).subtract(ONE), ONE, "");
        due(1, w, ones(w), NIL, ones(w), "N");
        due(1, w, top(w), top(w), NIL, "Z");
        due(1, w, top(w).subtract(ONE), top(w), ones(w), "CON");
    }

    private static void overflowOfDifferences(int w) {
        DUE.about("OVERFLOW: of ... 1 ... what it is with sign does not fit into w bits");
        due(1, w, top(w), ONE, top(w).subtract(ONE), "O");
        due(1, w, NIL, top(w), top(w), "CON");
        due(1, w, top(w).subtract(ONE), ones(w), top(w), "CON");
        due(1, w, ones(w), top(w), top(w).subtract(ONE), "");
        due(1, w, ones(w), top(w).subtract(ONE), top(w), "N");
    }

    private static void productsAreCut(int w) {
        DUE.about("2 a * b ... cut to w bits");
        due(2, w, ones(w), ones(w), ONE, "C");
        due(2, w, ones(w), NIL, NIL, "Z");
        due(2, w, ones(w), ONE, ones(w), "N");
        due(2, w, top(w), TWO, NIL, "COZ");
    }

    private static void upperHalves(int w) {
        DUE.about("3 the upper half (bits w to 2 w - 1) of the product without sign");
        due(3, w, ones(w), ones(w), ones(w).subtract(ONE), "N");
        due(3, w, ones(w), ONE, NIL, "Z");
        due(3, w, top(w), TWO, ONE, "");
        due(3, w, top(w), ones(w), top(w).subtract(ONE), "");
        due(3, w, top(w), top(w), Numbers.power(w - 2), "");
        due(3, w, NIL, NIL, NIL, "Z");
    }

    private static void carryOfProducts(int w) {
        DUE.about("CARRY: ... of 2 the product without sign has bits from w on");
        due(2, w, Numbers.power(w - 1), ONE, top(w), "N");
        due(2, w, ones(w - 1), TWO, ones(w).subtract(ONE), w == 2 ? "N" : "ON");
        due(2, w, top(w), top(w), NIL, "COZ");
        if (w >= 4) {
            int half = w / 2;
            due(2, w, Numbers.power(half), Numbers.power(w - half), NIL, "COZ");
            due(2, w, Numbers.power(half), ones(w - half), ones(w).subtract(ones(half)), "ON");
        }
    }

    private static void overflowOfProducts(int w) {
        DUE.about("OVERFLOW: of ... 2 ... what it is with sign does not fit into w bits");
        due(2, w, top(w), ones(w), top(w), "CON");
        due(2, w, ones(w), top(w), top(w), "CON");
        due(2, w, top(w), ONE, top(w), "N");
        due(2, w, top(w).subtract(ONE), ones(w), top(w).add(ONE), w == 2 ? "N" : "CN");
        if (w >= 4) {
            // Plus and minus 2 to the power w - 1: only the one below 0 fits.
            due(2, w, Numbers.power(w - 2), TWO, top(w), "ON");
            due(2, w, Numbers.power(w - 2), big(-2), top(w), "CN");
            due(2, w, Numbers.power(w - 2).negate(), TWO, top(w), "CN");
            due(2, w, Numbers.power(w - 2).negate(), big(-2), top(w), "CON");
            due(2, w, ones(w - 2), TWO, ones(w - 1).subtract(ONE), "");
        }
    }

    private static void quotientsWithoutSign(int w) {
        DUE.about("4 a / b without sign, 5 its rest");
        due(4, w, ones(w), ONE, ones(w), "N");
        due(4, w, ones(w), ones(w), ONE, "");
        due(4, w, ones(w).subtract(ONE), ones(w), NIL, "Z");
        due(4, w, top(w), ones(w), NIL, "Z");
        due(4, w, ones(w), top(w), ONE, "");
        due(4, w, NIL, ones(w), NIL, "Z");
        due(5, w, ones(w), ONE, NIL, "Z");
        due(5, w, ones(w).subtract(ONE), ones(w), ones(w).subtract(ONE), "N");
        due(5, w, ones(w), ones(w), NIL, "Z");
        due(5, w, top(w), ones(w), top(w), "N");
        due(5, w, ones(w), top(w), top(w).subtract(ONE), "");
    }

    private static void signedQuotientsTowardsNought(int w) {
        DUE.about("6 a / b with sign (towards 0), 7 its rest (that has a's sign)");
        due(6, w, big(7), big(2), big(3), "");
        due(6, w, big(-7), big(2), big(-3), "N");
        due(6, w, big(7), big(-2), big(-3), "N");
        due(6, w, big(-7), big(-2), big(3), "");
        due(6, w, big(-1), big(2), NIL, "Z");
        due(6, w, big(1), big(-2), NIL, "Z");
        due(7, w, big(7), big(2), ONE, "");
        due(7, w, big(-7), big(2), big(-1), "N");
        due(7, w, big(7), big(-2), ONE, "");
        due(7, w, big(-7), big(-2), big(-1), "N");
        due(7, w, big(-8), big(2), NIL, "Z");
        due(7, w, big(-1), big(7), big(-1), "N");
        due(7, w, big(1), big(-7), ONE, "");
    }

    private static void leastBySignedMinusOne(int w) {
        DUE.about("OVERFLOW: of ... 6 what it is with sign does not fit into w bits");
        due(6, w, top(w), ones(w), top(w), "ON");
        due(7, w, top(w), ones(w), NIL, "Z");
        due(6, w, top(w).add(ONE), ones(w), top(w).subtract(ONE), "");
        due(6, w, top(w), top(w), ONE, "");
        due(6, w, top(w).subtract(ONE), ones(w), top(w).add(ONE), "N");
        due(6, w, ones(w), top(w), NIL, "Z");
        due(7, w, ones(w), top(w), ones(w), "N");
        due(7, w, top(w).subtract(ONE), top(w), top(w).subtract(ONE), "");
        if (w > 2) {
            due(6, w, top(w), ONE, top(w), "N");
        }
    }

    private static void movedByNought(int w) {
        DUE.about("the bit that went out last (0 for n 0");
        for (int kind = 8; kind <= 10; kind++) {
            due(kind, w, ones(w), NIL, ones(w), "N");
            due(kind, w, NIL, NIL, NIL, "Z");
        }
    }

    /** In 2 bits the width itself fits into b, and so it does in all wider words. */
    private static void movedByTheWidth(int w) {
        DUE.about("of 8, 9, 10 the bit that went out last");
        BigInteger n = big(w);
        due(8, w, ONE, n, NIL, "CZ");
        due(8, w, ones(w).subtract(ONE), n, NIL, "Z");
        due(9, w, top(w), n, NIL, "CZ");
        due(9, w, top(w).subtract(ONE), n, NIL, "Z");
        due(10, w, top(w), n, ones(w), "CN");
        due(10, w, top(w).subtract(ONE), n, NIL, "Z");
    }

    private static void movedBeyondTheWidth(int w) {
        DUE.about("beyond the width 0, of 10 the highest bit of a");
        for (BigInteger n : new BigInteger[] {big(w + 1), ones(w), top(w).add(big(w))}) {
            if (n.bitLength() <= w) {
                due(8, w, ones(w), n, NIL, "Z");
                due(9, w, ones(w), n, NIL, "Z");
                due(10, w, top(w), n, ones(w), "CN");
                due(10, w, top(w).subtract(ONE), n, NIL, "Z");
            }
        }
    }

    private static void lastBitOut(int w) {
        DUE.about("the bit that went out last");
        due(8, w, top(w), ONE, NIL, "CZ");
        due(8, w, top(w).subtract(ONE), ONE, ones(w).subtract(ONE), "N");
        due(9, w, ONE, ONE, NIL, "CZ");
        due(9, w, ones(w).subtract(ONE), ONE, top(w).subtract(ONE), "");
        due(10, w, ones(w), ONE, ones(w), "CN");
        due(10, w, top(w), ONE, top(w).add(Numbers.power(w - 2)), "N");
        BigInteger n = big(w - 1);
        due(8, w, TWO, n, NIL, "CZ");
        due(8, w, ONE, n, top(w), "N");
        due(9, w, Numbers.power(w - 2), n, NIL, "CZ");
        due(9, w, top(w), n, ONE, "");
        due(10, w, top(w), n, ones(w), "N");
        due(10, w, top(w).add(Numbers.power(w - 2)), n, ones(w), "CN");
        due(10, w, Numbers.power(w - 2), n, NIL, "CZ");
    }

    private static void highestBitComesIn(int w) {
        DUE.about("10 likewise, but its highest bit comes in from above");
        due(9, w, top(w), ONE, Numbers.power(w - 2), "");
        due(10, w, top(w), ONE, top(w).add(Numbers.power(w - 2)), "N");
        due(10, w, top(w).subtract(ONE), ONE, Numbers.ones(w - 2), w == 2 ? "CZ" : "C");
        due(10, w, ones(w), big(w - 1), ones(w), "CN");
        due(10, w, ones(w), big(w), ones(w), "CN");
        due(10, w, NIL, ONE, NIL, "Z");
    }

    private static void countWithoutSign() {
        DUE.about("with n, b without sign");
        // Numbers that an int or a long, or the lowest limb alone, would take for small ones.
        for (BigInteger n : new BigInteger[] {Numbers.power(32), Numbers.power(31), Numbers.power(63), Numbers.power(63).add(ONE), ones(64)}) {
            due(8, 64, ones(64), n, NIL, "Z");
            due(9, 64, ones(64), n, NIL, "Z");
            due(10, 64, ones(64), n, ones(64), "CN");
        }
        for (int place : new int[] {32, 63, 64, 65, 128, 448, 511}) {
            BigInteger n = Numbers.power(place).add(ONE);
            due(8, 512, ones(512), n, NIL, "Z");
            due(9, 512, ones(512), n, NIL, "Z");
            due(10, 512, ones(511), n, NIL, "Z");
        }
        // 2 to the power 64 is 16 more than a multiple of 100, and 2 to the power 99 is 88 more.
        due(11, 100, ONE, Numbers.power(64), Numbers.power(16), "");
        due(12, 100, ONE, Numbers.power(64), Numbers.power(84), "");
        due(11, 100, ONE, Numbers.power(99), Numbers.power(88), "");
        due(12, 100, ONE, Numbers.power(99), Numbers.power(12), "");
        // 127 is 1 more than 7 * 18; all ones of 512 bits are 1 less than a multiple of 512.
        due(11, 7, ONE, big(127), TWO, "");
        due(12, 7, ONE, big(127), Numbers.power(6), "N");
        due(11, 512, ONE, ones(512), Numbers.power(511), "N");
        due(12, 512, ONE, ones(512), TWO, "");
    }

    private static void turnedRoundTheWidth(int w) {
        DUE.about("11 a turned up by n, 12 down");
        for (int kind = 11; kind <= 12; kind++) {
            due(kind, w, top(w), NIL, top(w), "N");
            due(kind, w, top(w), big(w), top(w), "N");
            due(kind, w, ones(w), ONE, ones(w), "N");
            due(kind, w, NIL, ones(w), NIL, "Z");
        }
        due(11, w, top(w), ONE, ONE, "");
        due(12, w, ONE, ONE, top(w), "N");
        due(11, w, ONE, big(w - 1), top(w), "N");
        due(12, w, top(w), big(w - 1), ONE, "");
        if (w > 3) {
            due(11, w, top(w), big(w + 1), ONE, "");
            due(12, w, ONE, big(w + 1), top(w), "N");
            due(11, w, top(w).add(ONE), ONE, big(3), "");
            due(12, w, big(3), ONE, top(w).add(ONE), "N");
        }
    }

    private static void bitsReversed(int w) {
        DUE.about("17 a with its bits the other way round");
        due(17, w, ONE, NIL, top(w), "N");
        due(17, w, top(w), NIL, ONE, "");
        due(17, w, TWO, NIL, Numbers.power(w - 2), "");
        due(17, w, ones(w).subtract(ONE), NIL, top(w).subtract(ONE), "");
        due(17, w, NIL, NIL, NIL, "Z");
        due(16, w, NIL, NIL, ones(w), "N");
        due(16, w, ones(w), NIL, NIL, "Z");
        due(16, w, top(w), NIL, top(w).subtract(ONE), "");
    }

    private static void bytesReversed() {
        DUE.about("18 a with its bytes the other way round");
        due(18, 8, big(0x81), NIL, big(0x81), "N");
        due(18, 8, NIL, NIL, NIL, "Z");
        due(18, 16, big(0x80), NIL, big(0x8000), "N");
        due(18, 16, big(0x8001), NIL, big(0x0180), "");
        due(18, 24, big(0x123456), NIL, big(0x563412), "");
        due(18, 64, big(0x0102030405060788L), NIL, new BigInteger("8807060504030201", 16), "N");
        due(18, 72, new BigInteger("010203040506070809", 16), NIL, new BigInteger("090807060504030201", 16), "");
        due(18, 504, big(0xFE), NIL, big(0xFE).shiftLeft(496), "N");
        due(18, 512, big(0x7F), NIL, big(0x7F).shiftLeft(504), "");
        due(18, 512, big(0x8000), NIL, big(0x80).shiftLeft(496), "");
    }

    private static void zeroAndNegative() {
        DUE.about("ZERO: all bits are 0. NEGATIVE: the highest one is 1");
        due(13, 512, top(512), top(512), top(512), "N");
        due(13, 512, top(512), ones(511), NIL, "Z");
        due(13, 65, ones(65), ONE, ONE, "");
        due(13, 65, ones(65), Numbers.power(63), Numbers.power(63), "");
        due(13, 65, ones(65), Numbers.power(64), Numbers.power(64), "N");
        due(14, 128, Numbers.power(63), NIL, Numbers.power(63), "");
        due(15, 128, ones(128), ones(127), Numbers.power(127), "N");
        due(15, 128, ones(128), ones(128), NIL, "Z");
    }

    private static void elseNoCarryAndNoOverflow() {
        DUE.about("else 0");
        for (int w : new int[] {8, 64, 512}) {
            for (int kind = 3; kind <= 18; kind++) {
                boolean carries = kind >= 8 && kind <= 10;
                for (BigInteger b : new BigInteger[] {ones(w), top(w), ONE}) {
                    WidthWords words = new WidthWords(w);
                    int first = Numbers.put(words, ones(w));
                    int second = Numbers.put(words, b);
                    int third = Numbers.put(words, top(w));
                    words.op(0, third, third);
                    words.op(kind, first, second);
                    String call = "op(" + kind + ") of ones and " + b.toString(16) + " in width " + w;
                    if (!carries) {
                        DUE.same(call + ": CARRY", words.flag(0), 0);
                    }
                    DUE.same(call + ": OVERFLOW", words.flag(1), 0);
                    words.op(0, third, third);
                    if (kind != 6) {
                        words.op(kind, third, first);
                        DUE.same(call + ", the least one first: OVERFLOW", words.flag(1), 0);
                    }
                }
            }
        }
    }

    private static void aWordWithItself() {
        DUE.about("OPERATIONS of words a and b of one width");
        for (int w : new int[] {8, 64, 512}) {
            WidthWords words = new WidthWords(w);
            int a = Numbers.put(words, top(w).add(big(3)));
            BigInteger[] answers = {big(6), NIL, big(9), null, ONE, NIL, ONE, NIL};
            for (int kind = 0; kind < 8; kind++) {
                int made = words.op(kind, a, a);
                if (kind != 3) {
                    DUE.same("op(" + kind + ", a, a) in width " + w, Numbers.read(words, made), answers[kind]);
                }
            }
            DUE.same("a then", Numbers.read(words, a), top(w).add(big(3)));
        }
    }

    /** Word 0 is 0x80, word 1 is 0, both of 8 bits, word 2 of 9; flags C, O, Z and TOO SMALL, NOT EXACT. */
    private static WidthWords prepared() {
        WidthWords words = new WidthWords(8);
        words.word();
        words.word();
        words.set(0, 0, 1);
        words.real(2, 0, 0, 0);
        words.set(0, 0, 0x80);
        words.extend(0, 9, false);
        words.op(0, 0, 0);
        return words;
    }

    private static final int NARROW = 0;
    private static final int NOUGHT = 1;
    private static final int WIDE = 3;
    private static final int NO_WORD = 5;

    private static void kindsThatAreNone() {
        DUE.about("IllegalArgumentException, when there is no such kind");
        for (int kind : new int[] {-1, -2, 19, 20, 32, 64, Integer.MAX_VALUE, Integer.MIN_VALUE}) {
            DUE.unchanged("op(" + kind + ")", prepared(), ARGUMENT, x -> x.op(kind, NARROW, NARROW));
            DUE.unchanged("op(" + kind + ") by 0", prepared(), ARGUMENT, x -> x.op(kind, NARROW, NOUGHT));
        }
    }

    private static void notOneWidth() {
        DUE.about("both have not one width");
        for (int kind = 0; kind < 16; kind++) {
            int asked = kind;
            DUE.unchanged("op(" + kind + ") of 8 and 9 bits", prepared(), ARGUMENT, x -> x.op(asked, NARROW, WIDE));
            DUE.unchanged("op(" + kind + ") of 9 and 8 bits", prepared(), ARGUMENT, x -> x.op(asked, WIDE, NARROW));
        }
    }

    private static void loneKindsDoNotLookAtB() {
        DUE.about("(16, 17, 18 do not look at b, which need not be a word)");
        for (int b : new int[] {NARROW, NOUGHT, WIDE, NO_WORD, 600, -1, Integer.MAX_VALUE, Integer.MIN_VALUE}) {
            for (int kind = 16; kind <= 18; kind++) {
                WidthWords words = prepared();
                int made = words.op(kind, NARROW, b);
                DUE.same("op(" + kind + ", 0, " + b + ")", words.limb(made, 0), kind == 16 ? 0x7F : kind == 17 ? 1 : 0x80);
                DUE.same("op(" + kind + ", 0, " + b + "): its number", made, 5);
            }
        }
        DUE.same("op(17) of 9 bits", prepared().op(17, WIDE, NO_WORD), 5);
    }

    private static void noWholeBytes() {
        DUE.about("or 18 has no whole bytes");
        for (int width = 1; width <= 512; width++) {
            WidthWords words = new WidthWords(width);
            words.word();
            if (width % 8 == 0) {
                DUE.same("op(18) in width " + width, words.op(18, 0, 0), 1);
            } else {
                DUE.unchanged("op(18) in width " + width, words, ARGUMENT, x -> x.op(18, 0, 0));
                DUE.unchanged("op(18) without b in width " + width, words, ARGUMENT, x -> x.op(18, 0, 7));
            }
        }
    }

    private static void byNought() {
        DUE.about("ArithmeticException, when a quotient or rest is by 0");
        for (int kind = 4; kind <= 7; kind++) {
            int asked = kind;
            DUE.unchanged("op(" + kind + ") by 0", prepared(), ArithmeticException.class, x -> x.op(asked, NARROW, NOUGHT));
            DUE.unchanged("op(" + kind + ") of 0 by 0", prepared(), ArithmeticException.class, x -> x.op(asked, NOUGHT, NOUGHT));
            for (int width : new int[] {1, 64, 65, 512}) {
                WidthWords words = new WidthWords(width);
                words.word();
                DUE.unchanged("op(" + kind + ") by 0 in width " + width, words, ArithmeticException.class, x -> x.op(asked, 0, 0));
                // A divisor whose only 1 is its highest bit is not 0.
                words.set(0, (width - 1) / 64, 1L << (width - 1) % 64);
                DUE.same("op(" + kind + ") by the highest bit in width " + width, words.op(kind, 0, 0), 1);
            }
        }
        for (int kind : new int[] {0, 1, 2, 3, 8, 9, 10, 11, 12, 13, 14, 15}) {
            DUE.same("op(" + kind + ") with 0", prepared().op(kind, NARROW, NOUGHT), 5);
        }
    }

    private static void noSuchWord() {
        DUE.about("ArrayIndexOutOfBoundsException (first), when there is no such word");
        for (int none : new int[] {-1, NO_WORD, NO_WORD + 1, 599, 600, Integer.MAX_VALUE, Integer.MIN_VALUE}) {
            for (int kind = 0; kind <= 18; kind++) {
                int asked = kind;
                DUE.unchanged("op(" + kind + ", " + none + ", 0)", prepared(), INDEX, x -> x.op(asked, none, NARROW));
                DUE.unchanged("op(" + kind + ", " + none + ", " + none + ")", prepared(), INDEX, x -> x.op(asked, none, none));
                if (kind < 16) {
                    DUE.unchanged("op(" + kind + ", 0, " + none + ")", prepared(), INDEX, x -> x.op(asked, NARROW, none));
                }
            }
        }
        DUE.same("op of the last word there is", prepared().op(0, NO_WORD - 1, NO_WORD - 1), 5);
    }

    private static void firstOneTold() {
        DUE.about("Of several exceptions the first one told is thrown");
        for (int kind : new int[] {-1, 19}) {
            DUE.unchanged("no such kind, no such a", prepared(), INDEX, x -> x.op(kind, NO_WORD, NARROW));
            DUE.unchanged("no such kind, no such b", prepared(), INDEX, x -> x.op(kind, NARROW, NO_WORD));
        }
        DUE.unchanged("no whole bytes, no such a", prepared(), INDEX, x -> x.op(18, NO_WORD, WIDE));
        for (int kind = 4; kind <= 7; kind++) {
            int asked = kind;
            DUE.unchanged("by 0, but of another width", prepared(), ARGUMENT, x -> x.op(asked, WIDE, NOUGHT));
            DUE.unchanged("by 0, but no such a", prepared(), INDEX, x -> x.op(asked, NO_WORD, NOUGHT));
        }
    }

    private static void flagKinds() {
        DUE.about("IllegalArgumentException, for another kind");
        for (int kind : new int[] {-1, 4, 5, 8, Integer.MAX_VALUE, Integer.MIN_VALUE}) {
            DUE.unchanged("flag(" + kind + ")", prepared(), ARGUMENT, x -> x.flag(kind));
            DUE.unchanged("flag(" + kind + ") of a new object", new WidthWords(8), ARGUMENT, x -> x.flag(kind));
        }
    }

    private static void flagsOfTheLatest() {
        DUE.about("CARRY (0), OVERFLOW (1), ZERO (2), NEGATIVE (3) of the latest op(): 1 or 0");
        WidthWords words = prepared();
        String flags = flags(words);
        DUE.same("the flags of 128 + 128", flags, "1110");
        DUE.same("the flags, asked again", flags(words), flags);
        words.word();
        words.set(NARROW, 0, 0x7F);
        words.field(NARROW, 0, 0);
        words.join(NARROW, NARROW);
        words.extend(NARROW, 16, true);
        words.compare(NARROW, NOUGHT, true);
        words.real(3, NARROW, NOUGHT, 3);
        words.bit(NARROW, 7);
        words.limb(NARROW, 0);
        words.count(NARROW);
        words.flags();
        words.width(NARROW);
        DUE.same("the flags after all other calls", flags(words), "1110");
        words.op(1, NOUGHT, NARROW);
        DUE.same("the flags of 0 - 127", flags(words), "1001");
        words.op(13, NARROW, NARROW);
        DUE.same("the flags of 127 and 127", flags(words), "0000");
    }

    private static String flags(WidthWords words) {
        return "" + words.flag(0) + words.flag(1) + words.flag(2) + words.flag(3);
    }
}
