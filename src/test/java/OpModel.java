import java.math.BigInteger;

/** What one operation answers, by the document's words, with whole numbers of the library. */
final class OpModel {
    final int width;
    final BigInteger answer;
    boolean carry = false;
    boolean overflow = false;
    private final BigInteger a;
    private final BigInteger b;

    OpModel(int kind, int width, BigInteger a, BigInteger b) {
        this.width = width;
        this.a = a;
        this.b = b;
        this.answer = Numbers.cut(whole(kind), width);
    }

    private BigInteger whole(int kind) {
        BigInteger signedA = Numbers.withSign(a, width);
        BigInteger signedB = Numbers.withSign(b, width);
        switch (kind) {
            case 0:
                carry = a.add(b).testBit(width);
                return fitting(signedA.add(signedB));
            case 1:
                carry = a.compareTo(b) < 0;
                return fitting(signedA.subtract(signedB));
            case 2:
                carry = a.multiply(b).bitLength() > width;
                return fitting(signedA.multiply(signedB));
            case 3:
                return a.multiply(b).shiftRight(width);
            case 4:
                return a.divide(b);
            case 5:
                return a.mod(b);
            case 6:
                return fitting(signedA.divide(signedB));
            case 7:
                return signedA.remainder(signedB);
            case 8:
            case 9:
            case 10:
                return moved(kind, signedA);
            case 11:
            case 12:
                return turned(kind == 11);
            case 13:
                return a.and(b);
            case 14:
                return a.or(b);
            case 15:
                return a.xor(b);
            case 16:
                return a.not();
            default:
                return groupsReversed(kind == 17 ? 1 : 8);
        }
    }

    private BigInteger fitting(BigInteger number) {
        overflow = number.bitLength() >= width;
        return number;
    }

    /** One place after the other, as far as that changes anything. */
    private BigInteger moved(int kind, BigInteger signedA) {
        BigInteger number = kind == 10 ? signedA : a;
        int steps = b.min(BigInteger.valueOf(width + 5)).intValue();
        for (int k = 0; k < steps; k++) {
            carry = number.testBit(kind == 8 ? width - 1 : 0);
            number = kind == 8 ? Numbers.cut(number.shiftLeft(1), width) : number.shiftRight(1);
        }
        return number;
    }

    private BigInteger turned(boolean up) {
        int n = b.mod(BigInteger.valueOf(width)).intValue();
        BigInteger number = BigInteger.ZERO;
        for (int k = 0; k < width; k++) {
            if (a.testBit(k)) {
                number = number.setBit((up ? k + n : k - n + width) % width);
            }
        }
        return number;
    }

    private BigInteger groupsReversed(int bits) {
        BigInteger number = BigInteger.ZERO;
        for (int k = 0; k < width / bits; k++) {
            number = number.shiftLeft(bits).or(Numbers.cut(a.shiftRight(k * bits), bits));
        }
        return number;
    }
}
