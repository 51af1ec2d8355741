/**
 * The boundary cases of promises 12 and 13, sentence by sentence, in each of the three widths, with
 * answers reckoned by hand from the document's words (RealTest has a model beside them).
 */
public final class RealEdgesTest {
    private static final Due DUE = new Due("RealEdgesTest");
    private static final Class<ArrayIndexOutOfBoundsException> INDEX = ArrayIndexOutOfBoundsException.class;
    private static final Class<IllegalArgumentException> ARGUMENT = IllegalArgumentException.class;
    private static final int ADD = 0;
    private static final int SUBTRACT = 1;
    private static final int MULTIPLY = 2;
    private static final int DIVIDE = 3;
    private static final int NOT_VALID = 1;
    private static final int BY_ZERO = 2;
    private static final int TOO_GREAT = 4 + 16;
    private static final int TOO_SMALL = 8 + 16;
    private static final int NOT_EXACT = 16;

    private final int width;
    private final int fractionBits;
    private final int exponentOnes;
    private final long minus;
    /** One fraction bit more than there are: 2 to the power f, and the least number that is not small. */
    private final long step;
    private final long infinite;
    private final long greatest;
    private final long none;
    private final long one;

    private RealEdgesTest(int width, int exponentBits, int fractionBits) {
        this.width = width;
        this.fractionBits = fractionBits;
        this.exponentOnes = (1 << exponentBits) - 1;
        minus = 1L << (width - 1);
        step = 1L << fractionBits;
        infinite = number(exponentOnes, 0);
        greatest = number(exponentOnes - 1, step - 1);
        none = number(exponentOnes, step / 2);
        one = number((1 << (exponentBits - 1)) - 1, 0);
    }

    private long number(int exponent, long fraction) {
        return (long) exponent << fractionBits | fraction;
    }

    public static void main(String[] args) {
        RealEdgesTest[] all = {new RealEdgesTest(8, 4, 3), new RealEdgesTest(16, 5, 10), new RealEdgesTest(32, 8, 23)};
        for (RealEdgesTest test : all) {
            test.layout();
            test.smallOnes();
            test.noughtsHaveASign();
            test.endOfTheFiniteOnes();
            test.halves();
            test.nextToHalves();
            test.farBelow();
            test.fractionGoesRound();
            test.productsAndQuotients();
            test.tooGreat();
            test.justNotTooGreat();
            test.exactAndTooGreat();
            test.tooSmall();
            test.smallButExact();
            test.smallBeforeItIsRounded();
            test.notSmall();
            test.noneOfNone();
            test.noneOfOthers();
            test.finiteByNought();
            test.infiniteByFinite();
            test.finiteByInfinite();
            test.infiniteTimes();
            test.exactNoughts();
            test.infiniteSums();
            test.exactSumNought();
            test.flagsOfTheLatest();
            test.flagsAreAdded();
            test.notValidOrOfNone();
            test.kindsAndWays();
            test.noSuchWord();
            test.notOneWidth();
        }
        widths();
        DUE.end();
    }

    private String told(int kind, long a, long b, int way) {
        return "real(" + kind + ") of " + Long.toHexString(a) + " and " + Long.toHexString(b) + " in way " + way + " and width " + width;
    }

    /** The flags must be those of this call alone, so each stands behind one with another flag. */
    private void due(int kind, long a, long b, int way, long answer, int flags) {
        String call = told(kind, a, b, way);
        for (long before : new long[] {0, infinite}) {
            WidthWords words = new WidthWords(width);
            words.word();
            words.word();
            words.set(0, 0, one);
            words.set(1, 0, before);
            words.real(before == 0 ? DIVIDE : SUBTRACT, before == 0 ? 0 : 1, 1, 0);
            words.set(0, 0, a);
            words.set(1, 0, b);
            int made = words.real(kind, 0, 1, way);
            DUE.same(call + ": its number", made, 3);
            DUE.same(call + ": its width", words.width(made), width);
            DUE.same(call, Long.toHexString(words.limb(made, 0)), Long.toHexString(answer));
            DUE.same(call + ": flags", words.flags(), flags);
        }
    }

    /** One answer in all five ways. */
    private void always(int kind, long a, long b, long answer, int flags) {
        for (int way = 0; way < 5; way++) {
            due(kind, a, b, way, answer, flags);
        }
    }

    /**
     * Answers not below 0, one for each way, and the same with the signs turned over: upwards is
     * downwards then. A product or quotient has its sign from either of the two.
     */
    private void ways(int kind, long a, long b, long[] answers, int[] flags) {
        int[] mirrored = {0, 1, 3, 2, 4};
        for (int way = 0; way < 5; way++) {
            int other = mirrored[way];
            due(kind, a, b, way, answers[way], flags[way]);
            if (kind <= SUBTRACT) {
                due(kind, a ^ minus, b ^ minus, other, answers[way] ^ minus, flags[way]);
                due(1 - kind, a, b ^ minus, way, answers[way], flags[way]);
            } else {
                due(kind, a ^ minus, b, other, answers[way] ^ minus, flags[way]);
                due(kind, a, b ^ minus, other, answers[way] ^ minus, flags[way]);
                due(kind, a ^ minus, b ^ minus, way, answers[way], flags[way]);
            }
        }
    }

    private void ways(int kind, long a, long b, long[] answers, int flags) {
        ways(kind, a, b, answers, new int[] {flags, flags, flags, flags, flags});
    }

    /** The answers of an inexact one next to low: to the nearest even one, and to the nearest away. */
    private static long[] next(long low, long even, long away) {
        return new long[] {even, low, low + 1, low, away};
    }

    private void layout() {
        DUE.about("has, from above, a sign, e EXPONENT bits (4, 5, 8), f FRACTION bits (3, 10, 23). The BIAS is 2 to the power e - 1, less 1");
        long two = one + step;
        always(ADD, one, one, two, 0);
        always(MULTIPLY, two, two, two + step, 0);
        always(SUBTRACT, one, two, one | minus, 0);
        always(DIVIDE, one, two, one - step, 0);
        always(MULTIPLY, two + step / 2, two + step / 2, two + 2 * step + step / 8, 0);
        always(MULTIPLY, one, greatest, greatest, 0);
        always(DIVIDE, greatest, one | minus, greatest | minus, 0);
        long[] ones = {0x38, 0x3C00, 0x3F800000};
        DUE.same("1 in width " + width, one, ones[width / 16]);
    }

    private void smallOnes() {
        DUE.about("exponent 0: fraction * 2 to the power 1 - bias - f");
        always(ADD, 1, 1, 2, 0);
        always(ADD, step - 1, 1, step, 0);
        always(ADD, step - 1, step - 1, 2 * step - 2, 0);
        always(SUBTRACT, step, 1, step - 1, 0);
        always(SUBTRACT, step + 1, step, 1, 0);
        always(SUBTRACT, 1, 2, 1 | minus, 0);
        always(SUBTRACT, 2 * step, 1, 2 * step - 1, 0);
        always(MULTIPLY, 1, one + step, 2, 0);
        always(MULTIPLY, step / 2, one + step, step, 0);
        always(DIVIDE, 1, 1, one, 0);
        always(DIVIDE, step - 1, 1, whole(step - 1), 0);
        always(DIVIDE, step, 1, whole(step), 0);
    }

    /** A whole number from 1 to 2 to the power f as a number with a point. */
    private long whole(long number) {
        int highest = 63 - Long.numberOfLeadingZeros(number);
        return one + highest * step + (number << (fractionBits - highest)) - step;
    }

    private void noughtsHaveASign() {
        DUE.about("(also noughts have a sign)");
        always(MULTIPLY, minus, one, minus, 0);
        always(MULTIPLY, minus, one | minus, 0, 0);
        always(DIVIDE, minus, one, minus, 0);
        always(ADD, minus, minus, minus, 0);
        always(DIVIDE, one, minus, infinite | minus, BY_ZERO);
        always(ADD, minus, one, one, 0);
        always(SUBTRACT, minus, one, one | minus, 0);
        always(ADD, 1, minus, 1, 0);
        always(SUBTRACT, 0, 1 | minus, 1, 0);
    }

    private void endOfTheFiniteOnes() {
        DUE.about("Exponent bits all 1: fraction 0 INFINITE, else NONE");
        for (long sign : new long[] {0, minus}) {
            always(MULTIPLY, greatest | sign, one, greatest | sign, 0);
            always(MULTIPLY, infinite | sign, one, infinite | sign, 0);
            always(MULTIPLY, infinite + 1 | sign, one, none, 0);
            always(MULTIPLY, infinite + step - 1 | sign, one, none, 0);
        }
        always(SUBTRACT, greatest, greatest - 1, number(exponentOnes - 1 - fractionBits, 0), 0);
    }

    /** Half of the last place of one. */
    private long half() {
        return one - (fractionBits + 1) * step;
    }

    private void halves() {
        DUE.about("0 to the nearest one, of two the one with an even fraction; 1 towards 0; 2 upwards; 3 downwards; 4 to the nearest one, of two that away from 0");
        ways(ADD, one, half(), next(one, one, one + 1), NOT_EXACT);
        ways(ADD, one + 1, half(), next(one + 1, one + 2, one + 2), NOT_EXACT);
        ways(ADD, half(), one + 2, next(one + 2, one + 2, one + 3), NOT_EXACT);
        ways(SUBTRACT, one + 1, half(), next(one, one, one + 1), NOT_EXACT);
        ways(SUBTRACT, one + 2, half(), next(one + 1, one + 2, one + 2), NOT_EXACT);
        // Below one the places are half as wide.
        ways(SUBTRACT, one, half() - step, next(one - 1, one, one), NOT_EXACT);
        always(ADD, one, half() + step, one + 1, 0);
        always(SUBTRACT, one, half(), one - 1, 0);
    }

    private void nextToHalves() {
        DUE.about("to the nearest one");
        ways(ADD, one, half() + 1, next(one, one + 1, one + 1), NOT_EXACT);
        ways(ADD, one, half() - 1, next(one, one, one), NOT_EXACT);
        ways(ADD, one + 1, half() - 1, next(one + 1, one + 1, one + 1), NOT_EXACT);
        ways(ADD, one + 1, half() + 1, next(one + 1, one + 2, one + 2), NOT_EXACT);
        ways(SUBTRACT, one + 1, half() + 1, next(one, one, one), NOT_EXACT);
        ways(SUBTRACT, one + 1, half() - 1, next(one, one + 1, one + 1), NOT_EXACT);
        ways(SUBTRACT, one, half() - step + 1, next(one - 1, one - 1, one - 1), NOT_EXACT);
        ways(SUBTRACT, one, half() - step - 1, next(one - 1, one, one), NOT_EXACT);
    }

    private void farBelow() {
        DUE.about("Exact, then ROUNDED to a number that there is");
        ways(ADD, one, 1, next(one, one, one), NOT_EXACT);
        ways(SUBTRACT, one, 1, next(one - 1, one, one), NOT_EXACT);
        ways(ADD, greatest - 1, 1, next(greatest - 1, greatest - 1, greatest - 1), NOT_EXACT);
        ways(SUBTRACT, greatest, 1, next(greatest - 1, greatest, greatest), NOT_EXACT);
        ways(ADD, number(exponentOnes - 1, 0), 1, next(number(exponentOnes - 1, 0), number(exponentOnes - 1, 0), number(exponentOnes - 1, 0)), NOT_EXACT);
    }

    private void fractionGoesRound() {
        DUE.about("Exact, then ROUNDED to a number that there is");
        long two = one + step;
        ways(ADD, two - 1, half(), next(two - 1, two, two), NOT_EXACT);
        ways(ADD, two - 1, half() - 1, next(two - 1, two - 1, two - 1), NOT_EXACT);
        ways(ADD, two - 1, 1, next(two - 1, two - 1, two - 1), NOT_EXACT);
    }

    private void productsAndQuotients() {
        DUE.about("2 a * b, 3 a / b. Exact, then ROUNDED");
        // (1 + u) (1 + u) is 1 + 2 u and u * u, far below a half.
        ways(MULTIPLY, one + 1, one + 1, next(one + 2, one + 2, one + 2), NOT_EXACT);
        // One and a half times 1 + u is 1.5 and 1.5 u.
        long oneAndAHalf = one + step / 2;
        ways(MULTIPLY, oneAndAHalf, one + 1, next(oneAndAHalf + 1, oneAndAHalf + 2, oneAndAHalf + 2), NOT_EXACT);
        if (width > 8) {
            // 1.5 and 4.5 u; in 8 bits that is above 2, but 1.25 * 1.25 is 1.5 and half a place.
            ways(MULTIPLY, oneAndAHalf, one + 3, next(oneAndAHalf + 4, oneAndAHalf + 4, oneAndAHalf + 5), NOT_EXACT);
        } else {
            ways(MULTIPLY, one + 2, one + 2, next(oneAndAHalf, oneAndAHalf, oneAndAHalf + 1), NOT_EXACT);
        }
        // 1 / (1 + u) is a bit above 1 - u, that is two places below one.
        ways(DIVIDE, one, one + 1, next(one - 2, one - 2, one - 2), NOT_EXACT);
        // 1 / (1 - u / 2) is a bit above 1 + u / 2, the half.
        ways(DIVIDE, one, one - 1, next(one, one + 1, one + 1), NOT_EXACT);
        always(DIVIDE, oneAndAHalf, oneAndAHalf, one, 0);
        always(MULTIPLY, oneAndAHalf, oneAndAHalf, one + step + step / 8, 0);
    }

    private static long[] beyond(long infinite) {
        return new long[] {infinite, infinite - 1, infinite, infinite - 1, infinite};
    }

    private void tooGreat() {
        DUE.about("(0 and 4: infinite; 1: finite; 2, 3: infinite for the sign that is meant, else finite)");
        ways(ADD, greatest, greatest, beyond(infinite), TOO_GREAT);
        ways(MULTIPLY, greatest, greatest, beyond(infinite), TOO_GREAT);
        ways(MULTIPLY, greatest, one + 1, beyond(infinite), TOO_GREAT);
        ways(DIVIDE, greatest, 1, beyond(infinite), TOO_GREAT);
        ways(DIVIDE, greatest, step, beyond(infinite), TOO_GREAT);
        ways(DIVIDE, greatest, one - step + 1, beyond(infinite), TOO_GREAT);
    }

    /** Whether it is too great is seen when it is rounded, as if there were greater numbers. */
    private void justNotTooGreat() {
        DUE.about("where the exponent would be too great then (exponents as if they had no end)");
        long lastHalf = number(exponentOnes - 1 - fractionBits - 1, 0);
        ways(ADD, greatest, lastHalf, beyond(infinite), new int[] {TOO_GREAT, NOT_EXACT, TOO_GREAT, NOT_EXACT, TOO_GREAT});
        ways(ADD, greatest, lastHalf - 1, next(greatest, greatest, greatest), new int[] {NOT_EXACT, NOT_EXACT, TOO_GREAT, NOT_EXACT, NOT_EXACT});
        ways(ADD, greatest, lastHalf + 1, beyond(infinite), new int[] {TOO_GREAT, NOT_EXACT, TOO_GREAT, NOT_EXACT, TOO_GREAT});
        ways(ADD, greatest, 1, next(greatest, greatest, greatest), new int[] {NOT_EXACT, NOT_EXACT, TOO_GREAT, NOT_EXACT, NOT_EXACT});
        ways(ADD, greatest - 1, lastHalf, next(greatest - 1, greatest - 1, greatest), NOT_EXACT);
        always(ADD, greatest - step, greatest - step, greatest, 0);
        always(MULTIPLY, greatest - step, one + step, greatest, 0);
    }

    private void exactAndTooGreat() {
        DUE.about("16 NOT EXACT (also when too great)");
        long top = number(exponentOnes - 1, 0);
        ways(MULTIPLY, top, one + step, beyond(infinite), TOO_GREAT);
        ways(ADD, top, top, beyond(infinite), TOO_GREAT);
        ways(DIVIDE, top, one - step, beyond(infinite), TOO_GREAT);
        ways(ADD, greatest, number(exponentOnes - 1 - fractionBits, 0), beyond(infinite), TOO_GREAT);
        // The greatest by 1 - u / 2 is just 2 to the power of an exponent that there is not.
        ways(DIVIDE, greatest, one - 1, beyond(infinite), TOO_GREAT);
    }

    private void tooSmall() {
        DUE.about("8 TOO SMALL (not exact, and below 2 to the power 1 - bias without sign before it is rounded)");
        long two = one + step;
        ways(MULTIPLY, 1, 1, next(0, 0, 0), TOO_SMALL);
        ways(DIVIDE, 1, greatest, next(0, 0, 0), TOO_SMALL);
        ways(DIVIDE, 1, two, next(0, 0, 1), TOO_SMALL);
        ways(DIVIDE, 1, two + 1, next(0, 0, 0), TOO_SMALL);
        ways(DIVIDE, 1, two - 1, next(0, 1, 1), TOO_SMALL);
        ways(DIVIDE, 3, two, next(1, 2, 2), TOO_SMALL);
        ways(DIVIDE, 5, two, next(2, 2, 3), TOO_SMALL);
        ways(DIVIDE, step + 1, two, next(step / 2, step / 2, step / 2 + 1), TOO_SMALL);
        ways(MULTIPLY, step - 1, one - step, next(step / 2 - 1, step / 2, step / 2), TOO_SMALL);
        ways(MULTIPLY, 1, one - 1, next(0, 1, 1), TOO_SMALL);
        ways(MULTIPLY, 1, one + 1, next(1, 1, 1), TOO_SMALL);
        ways(DIVIDE, 1, one + 1, next(0, 1, 1), TOO_SMALL);
    }

    private void smallButExact() {
        DUE.about("TOO SMALL (not exact");
        always(DIVIDE, step, one + step, step / 2, 0);
        always(DIVIDE, 2, one + step, 1, 0);
        always(MULTIPLY, step, half() + step, 1, 0);
        always(SUBTRACT, step + 1, step - 1, 2, 0);
        always(DIVIDE, step, step, one, 0);
        always(MULTIPLY, 1, one, 1, 0);
    }

    private void smallBeforeItIsRounded() {
        DUE.about("below 2 to the power 1 - bias without sign before it is rounded");
        // Half a place below the least one that is not small.
        ways(DIVIDE, 2 * step - 1, one + step, next(step - 1, step, step), TOO_SMALL);
        ways(MULTIPLY, step, one - 1, next(step - 1, step, step), TOO_SMALL);
        ways(DIVIDE, step - 1, one - 1, next(step - 1, step - 1, step - 1), TOO_SMALL);
    }

    private void notSmall() {
        DUE.about("below 2 to the power 1 - bias without sign before it is rounded");
        ways(MULTIPLY, step + 1, one + 1, next(step + 2, step + 2, step + 2), NOT_EXACT);
        ways(DIVIDE, step, one - 1, next(step, step + 1, step + 1), NOT_EXACT);
        // 1.5 times the least but a place is just a half beyond 1.5 of them.
        ways(MULTIPLY, step + 1, one + step / 2, next(step + step / 2 + 1, step + step / 2 + 2, step + step / 2 + 2), NOT_EXACT);
        always(MULTIPLY, step, one, step, 0);
    }

    private long[] several() {
        return new long[] {0, 1, step - 1, step, one, greatest, infinite, minus, 1 | minus, one | minus, greatest | minus, infinite | minus};
    }

    private void noneOfNone() {
        DUE.about("NONE comes of NONE (whichever)");
        for (long bad : new long[] {infinite + 1, infinite + 2, none, infinite + step - 1}) {
            for (long sign : new long[] {0, minus}) {
                for (int kind = 0; kind < 4; kind++) {
                    for (long other : several()) {
                        always(kind, bad | sign, other, none, 0);
                        always(kind, other, bad | sign, none, 0);
                    }
                    always(kind, bad | sign, bad, none, 0);
                    always(kind, bad | sign, none | minus, none, 0);
                }
            }
        }
    }

    private void noneOfOthers() {
        DUE.about("of infinite ones with other signs added (same ones subtracted), 0 * infinite, 0 / 0, infinite / infinite: sign 0, exponent all 1, the highest fraction bit alone");
        always(ADD, infinite, infinite | minus, none, NOT_VALID);
        always(ADD, infinite | minus, infinite, none, NOT_VALID);
        always(SUBTRACT, infinite, infinite, none, NOT_VALID);
        always(SUBTRACT, infinite | minus, infinite | minus, none, NOT_VALID);
        for (long first : new long[] {0, minus}) {
            for (long second : new long[] {0, minus}) {
                always(MULTIPLY, first, infinite | second, none, NOT_VALID);
                always(MULTIPLY, infinite | first, second, none, NOT_VALID);
                always(DIVIDE, first, second, none, NOT_VALID);
                always(DIVIDE, infinite | first, infinite | second, none, NOT_VALID);
            }
        }
        long[] nones = {0x7C, 0x7E00, 0x7FC00000};
        DUE.same("NONE in width " + width, none, nones[width / 16]);
    }

    /** A call with signs in all four ways; the answer has the exclusive or of them. */
    private void signs(int kind, long a, long b, long answer, int flags) {
        always(kind, a, b, answer, flags);
        always(kind, a | minus, b, answer | minus, flags);
        always(kind, a, b | minus, answer | minus, flags);
        always(kind, a | minus, b | minus, answer, flags);
    }

    private void finiteByNought() {
        DUE.about("A finite one but 0 / 0 ... is infinite; 2 BY ZERO (a finite one but 0, by 0)");
        for (long finite : new long[] {1, step - 1, step, one, greatest}) {
            signs(DIVIDE, finite, 0, infinite, BY_ZERO);
        }
    }

    private void infiniteByFinite() {
        DUE.about("and infinite / a finite one (0, too), is infinite");
        for (long finite : new long[] {0, 1, step - 1, step, one, greatest}) {
            signs(DIVIDE, infinite, finite, infinite, 0);
        }
    }

    private void finiteByInfinite() {
        DUE.about("finite / infinite is 0, with the exclusive or of the signs");
        for (long finite : new long[] {0, 1, step - 1, step, one, greatest}) {
            signs(DIVIDE, finite, infinite, 0, 0);
        }
    }

    private void infiniteTimes() {
        DUE.about("Infinite * one that is not 0 is infinite");
        for (long other : new long[] {1, step - 1, step, one, greatest, infinite}) {
            signs(MULTIPLY, infinite, other, infinite, 0);
            signs(MULTIPLY, other, infinite, infinite, 0);
        }
    }

    private void exactNoughts() {
        DUE.about("an exact 0 of a product or quotient is 0, with the exclusive or of the signs, too");
        for (long finite : new long[] {1, step - 1, step, one, greatest}) {
            signs(MULTIPLY, 0, finite, 0, 0);
            signs(MULTIPLY, finite, 0, 0, 0);
            signs(DIVIDE, 0, finite, 0, 0);
        }
        signs(MULTIPLY, 0, 0, 0, 0);
    }

    private void infiniteSums() {
        DUE.about("infinite + or - a finite one is that infinite one, infinite + infinite of one sign that one (b's sign turned over for a - b)");
        for (long finite : new long[] {0, 1, one, greatest, minus, 1 | minus, greatest | minus}) {
            for (long sign : new long[] {0, minus}) {
                always(ADD, infinite | sign, finite, infinite | sign, 0);
                always(ADD, finite, infinite | sign, infinite | sign, 0);
                always(SUBTRACT, infinite | sign, finite, infinite | sign, 0);
                always(SUBTRACT, finite, infinite | sign, (infinite | sign) ^ minus, 0);
            }
        }
        always(ADD, infinite, infinite, infinite, 0);
        always(ADD, infinite | minus, infinite | minus, infinite | minus, 0);
        always(SUBTRACT, infinite, infinite | minus, infinite, 0);
        always(SUBTRACT, infinite | minus, infinite, infinite | minus, 0);
    }

    private void exactSumNought() {
        DUE.about("An exact sum 0 has the sign of both if they are alike (b's turned over for a - b), else 0, but 1 with way 3");
        always(ADD, 0, 0, 0, 0);
        always(ADD, minus, minus, minus, 0);
        always(SUBTRACT, 0, minus, 0, 0);
        always(SUBTRACT, minus, 0, minus, 0);
        for (int way = 0; way < 5; way++) {
            long nought = way == 3 ? minus : 0;
            due(ADD, 0, minus, way, nought, 0);
            due(ADD, minus, 0, way, nought, 0);
            due(SUBTRACT, 0, 0, way, nought, 0);
            due(SUBTRACT, minus, minus, way, nought, 0);
            for (long finite : new long[] {1, step - 1, step, one + 1, greatest}) {
                due(ADD, finite, finite | minus, way, nought, 0);
                due(ADD, finite | minus, finite, way, nought, 0);
                due(SUBTRACT, finite, finite, way, nought, 0);
                due(SUBTRACT, finite | minus, finite | minus, way, nought, 0);
            }
        }
    }

    /** Words 0 and 1 are one and 0, word 2 has one bit more; word 3 is infinite, BY ZERO is raised. */
    private WidthWords prepared() {
        WidthWords words = new WidthWords(width);
        words.word();
        words.word();
        words.set(0, 0, one);
        words.extend(0, width + 1, false);
        words.real(DIVIDE, 0, 1, 0);
        return words;
    }

    private void flagsOfTheLatest() {
        DUE.about("REAL FLAGS of the latest real()");
        DUE.same("flags of a new object", new WidthWords(width).flags(), 0);
        WidthWords words = prepared();
        DUE.same("flags of 1 / 0", words.flags(), BY_ZERO);
        DUE.same("flags, asked again", words.flags(), BY_ZERO);
        words.op(0, 0, 1);
        words.word();
        words.set(1, 0, 1);
        words.field(0, 0, 1);
        words.join(0, 1);
        words.extend(0, 40, true);
        words.compare(0, 1, true);
        words.flag(2);
        words.bit(0, 0);
        words.limb(0, 0);
        words.count(0);
        words.width(0);
        DUE.same("flags after all other calls", words.flags(), BY_ZERO);
        words.real(MULTIPLY, 1, 1, 0);
        DUE.same("flags of the least * the least", words.flags(), TOO_SMALL);
        words.real(ADD, 1, 1, 0);
        DUE.same("flags of an exact sum", words.flags(), 0);
        words.real(SUBTRACT, 3, 3, 0);
        DUE.same("flags of infinite - infinite", words.flags(), NOT_VALID);
        words.set(0, 0, none);
        words.real(ADD, 0, 0, 0);
        DUE.same("flags of NONE + NONE", words.flags(), 0);
    }

    private void flagsAreAdded() {
        DUE.about("REAL FLAGS, added");
        due(MULTIPLY, greatest, greatest, 0, infinite, 4 + 16);
        due(MULTIPLY, 1, 1, 0, 0, 8 + 16);
        due(ADD, one, 1, 0, one, 16);
        due(DIVIDE, one, 0, 0, infinite, 2);
        due(DIVIDE, 0, 0, 0, none, 1);
        due(ADD, one, one, 0, one + step, 0);
    }

    private void notValidOrOfNone() {
        DUE.about("1 NOT VALID (NONE that does not come of NONE)");
        due(MULTIPLY, none, infinite, 0, none, 0);
        due(MULTIPLY, 0, infinite, 0, none, NOT_VALID);
        due(SUBTRACT, infinite, none, 0, none, 0);
        due(SUBTRACT, infinite, infinite, 0, none, NOT_VALID);
        due(DIVIDE, none, 0, 0, none, 0);
        due(DIVIDE, 0, 0, 0, none, NOT_VALID);
        due(DIVIDE, infinite + 1, infinite, 0, none, 0);
        due(DIVIDE, infinite, infinite, 0, none, NOT_VALID);
    }

    private void kindsAndWays() {
        DUE.about("IllegalArgumentException, when there is no such kind or way");
        for (int wrong : new int[] {-1, -2, 5, 6, 32, Integer.MAX_VALUE, Integer.MIN_VALUE}) {
            DUE.unchanged("real(" + wrong + ")", prepared(), ARGUMENT, x -> x.real(wrong, 0, 0, 0));
            DUE.unchanged("real in way " + wrong, prepared(), ARGUMENT, x -> x.real(0, 0, 0, wrong));
            DUE.unchanged("real(" + wrong + ") in way " + wrong, prepared(), ARGUMENT, x -> x.real(wrong, 0, 0, wrong));
        }
        DUE.unchanged("real(4)", prepared(), ARGUMENT, x -> x.real(4, 0, 0, 0));
        DUE.same("way 4", prepared().real(3, 0, 0, 4), 4);
    }

    private void noSuchWord() {
        DUE.about("ArrayIndexOutOfBoundsException (first), when there is no such word");
        for (int none : new int[] {-1, 4, 5, 599, 600, Integer.MAX_VALUE, Integer.MIN_VALUE}) {
            DUE.unchanged("real(0, " + none + ", 0, 0)", prepared(), INDEX, x -> x.real(0, none, 0, 0));
            DUE.unchanged("real(0, 0, " + none + ", 0)", prepared(), INDEX, x -> x.real(0, 0, none, 0));
            DUE.unchanged("real(4, " + none + ", 0, 0)", prepared(), INDEX, x -> x.real(4, none, 0, 0));
            DUE.unchanged("real(0, 0, " + none + ", 5)", prepared(), INDEX, x -> x.real(0, 0, none, 5));
            DUE.unchanged("real(0, 2, " + none + ", 0)", prepared(), INDEX, x -> x.real(0, 2, none, 0));
        }
    }

    private void notOneWidth() {
        DUE.about("both have not one width");
        DUE.unchanged("real of two widths", prepared(), ARGUMENT, x -> x.real(0, 0, 2, 0));
        DUE.unchanged("real of two widths", prepared(), ARGUMENT, x -> x.real(0, 2, 0, 0));
        for (int other : new int[] {8, 16, 32}) {
            if (other != width) {
                WidthWords words = prepared();
                int word = other > width ? words.extend(0, other, false) : words.field(0, 0, other - 1);
                DUE.unchanged("real of " + width + " and " + other, words, ARGUMENT, x -> x.real(0, 0, word, 0));
                DUE.unchanged("real of " + other + " and " + width, words, ARGUMENT, x -> x.real(0, word, 0, 0));
                DUE.same("real of " + other + " bits there", words.width(words.real(0, word, word, 0)), other);
            }
        }
    }

    private static void widths() {
        DUE.about("or that is not 8, 16 or 32");
        for (int width = 1; width <= 512; width++) {
            WidthWords words = new WidthWords(width);
            words.word();
            if (width == 8 || width == 16 || width == 32) {
                DUE.same("real in width " + width, words.real(0, 0, 0, 0), 1);
            } else {
                DUE.unchanged("real in width " + width, words, ARGUMENT, x -> x.real(0, 0, 0, 0));
                DUE.unchanged("real without b in width " + width, words, INDEX, x -> x.real(0, 0, 1, 0));
            }
        }
    }
}
