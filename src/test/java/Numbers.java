import java.math.BigInteger;
import java.util.ArrayList;
import java.util.List;
import java.util.Random;

/** Words as whole numbers of the Java library, against which the program is held. */
final class Numbers {
    private Numbers() {
    }

    static BigInteger power(int n) {
        return BigInteger.ONE.shiftLeft(n);
    }

    static BigInteger ones(int n) {
        return power(n).subtract(BigInteger.ONE);
    }

    static BigInteger cut(BigInteger number, int width) {
        return number.mod(power(width));
    }

    static BigInteger withSign(BigInteger number, int width) {
        return number.testBit(width - 1) ? number.subtract(power(width)) : number;
    }

    static int limbs(int width) {
        return (width + 63) / 64;
    }

    static int put(WidthWords words, BigInteger number) {
        int word = words.word();
        change(words, word, number);
        return word;
    }

    static void change(WidthWords words, int word, BigInteger number) {
        for (int k = 0; k < limbs(words.width(word)); k++) {
            words.set(word, k, number.shiftRight(64 * k).longValue());
        }
    }

    static BigInteger read(WidthWords words, int word) {
        BigInteger number = BigInteger.ZERO;
        for (int k = limbs(words.width(word)) - 1; k >= 0; k--) {
            BigInteger limb = cut(BigInteger.valueOf(words.limb(word, k)), 64);
            number = number.shiftLeft(64).or(limb);
        }
        return number;
    }

    /** Numbers at which carries, signs and digits change, and some without a pattern. */
    static List<BigInteger> interesting(int width, Random chance, int without) {
        List<BigInteger> all = new ArrayList<>();
        int[] places = {0, 1, 2, 3, 8, 31, 32, 33, 63, 64, 65, 95, 96, 128, 255, 256, 511, width - 2, width - 1, width / 2};
        all.add(BigInteger.ZERO);
        all.add(cut(BigInteger.ONE.negate(), width));
        for (int place : places) {
            if (place >= 0 && place < width) {
                all.add(power(place));
                all.add(cut(power(place).subtract(BigInteger.ONE), width));
                all.add(cut(power(place).negate(), width));
            }
        }
        all.add(cut(BigInteger.valueOf(width), width));
        all.add(cut(BigInteger.valueOf(width - 1), width));
        all.add(cut(BigInteger.valueOf(width + 1), width));
        for (int k = 0; k < without; k++) {
            all.add(new BigInteger(1 + chance.nextInt(width), chance));
            all.add(runsOfOnes(width, chance));
        }
        return all;
    }

    private static BigInteger runsOfOnes(int width, Random chance) {
        BigInteger number = BigInteger.ZERO;
        int at = 0;
        boolean one = chance.nextBoolean();
        while (at < width) {
            int length = 1 + chance.nextInt(48);
            if (one) {
                number = number.or(power(length).subtract(BigInteger.ONE).shiftLeft(at));
            }
            one = !one;
            at += length;
        }
        return cut(number, width);
    }
}
