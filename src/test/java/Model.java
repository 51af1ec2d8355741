import java.math.BigInteger;
import java.util.ArrayList;
import java.util.List;

/** A whole object by the document's words, slow and plain: each call checks in the order told there. */
final class Model {
    private static final int MOST_WORDS = 600;
    private static final int MOST_BITS = 512;
    private final int newWidth;
    private final List<BigInteger> numbers = new ArrayList<>();
    private final List<Integer> widths = new ArrayList<>();
    private final int[] flags = new int[4];
    private int realFlags = 0;

    Model(int bits) {
        long rest = ((long) bits - 1) % MOST_BITS;
        newWidth = 1 + (int) (rest < 0 ? rest + MOST_BITS : rest);
    }

    int size() {
        return numbers.size();
    }

    int word() {
        return made(BigInteger.ZERO, newWidth);
    }

    boolean set(int word, int limb, long v) {
        words(word);
        limbs(word, limb);
        int width = widths.get(word);
        int has = Math.min(64, width - 64 * limb);
        BigInteger whole = Numbers.cut(BigInteger.valueOf(v), 64);
        BigInteger kept = Numbers.cut(whole, has);
        BigInteger others = numbers.get(word).andNot(Numbers.ones(64).shiftLeft(64 * limb));
        numbers.set(word, others.or(kept.shiftLeft(64 * limb)));
        return !kept.equals(whole);
    }

    int op(int kind, int a, int b) {
        boolean alone = kind == 16 || kind == 17 || kind == 18;
        words(a);
        if (!alone) {
            words(b);
        }
        refuse(kind < 0 || kind > 18);
        refuse(!alone && !widths.get(a).equals(widths.get(b)));
        refuse(kind == 18 && widths.get(a) % 8 != 0);
        BigInteger second = numbers.get(alone ? a : b);
        if (kind >= 4 && kind <= 7 && second.signum() == 0) {
            throw new ArithmeticException("due");
        }
        OpModel asked = new OpModel(kind, widths.get(a), numbers.get(a), second);
        int number = made(asked.answer, asked.width);
        flags[0] = asked.carry ? 1 : 0;
        flags[1] = asked.overflow ? 1 : 0;
        flags[2] = asked.answer.signum() == 0 ? 1 : 0;
        flags[3] = asked.answer.testBit(asked.width - 1) ? 1 : 0;
        return number;
    }

    int flag(int kind) {
        refuse(kind < 0 || kind > 3);
        return flags[kind];
    }

    int field(int word, int from, int to) {
        words(word);
        int width = widths.get(word);
        refuse(from < 0 || from >= width || to < 0 || to >= width);
        refuse(from > to);
        int bits = to - from + 1;
        return made(Numbers.cut(numbers.get(word).shiftRight(from), bits), bits);
    }

    int join(int a, int b) {
        words(a);
        words(b);
        refuse(widths.get(a) + widths.get(b) > MOST_BITS);
        return made(numbers.get(a).shiftLeft(widths.get(b)).or(numbers.get(b)), widths.get(a) + widths.get(b));
    }

    int extend(int word, int bits, boolean sign) {
        words(word);
        refuse(bits < widths.get(word) || bits > MOST_BITS);
        return made(Numbers.cut(value(word, sign), bits), bits);
    }

    int compare(int a, int b, boolean sign) {
        words(a);
        words(b);
        refuse(!widths.get(a).equals(widths.get(b)));
        return value(a, sign).compareTo(value(b, sign));
    }

    boolean bit(int word, int k) {
        words(word);
        refuse(k < 0 || k >= widths.get(word));
        return numbers.get(word).testBit(k);
    }

    long limb(int word, int k) {
        words(word);
        limbs(word, k);
        return numbers.get(word).shiftRight(64 * k).longValue();
    }

    int real(int kind, int a, int b, int rounding) {
        words(a);
        words(b);
        refuse(kind < 0 || kind > 3 || rounding < 0 || rounding > 4);
        int width = widths.get(a);
        refuse(width != widths.get(b));
        refuse(width != 8 && width != 16 && width != 32);
        RealModel asked = new RealModel(width);
        asked.ask(kind, numbers.get(a).longValue(), numbers.get(b).longValue(), rounding);
        int number = made(BigInteger.valueOf(asked.answer), width);
        realFlags = asked.flags;
        return number;
    }

    int flags() {
        return realFlags;
    }

    int count(int word) {
        words(word);
        return numbers.get(word).bitCount();
    }

    int width(int word) {
        words(word);
        return widths.get(word);
    }

    private int made(BigInteger number, int width) {
        if (size() == MOST_WORDS) {
            throw new UnsupportedOperationException("due");
        }
        numbers.add(number);
        widths.add(width);
        return size() - 1;
    }

    private BigInteger value(int word, boolean sign) {
        BigInteger number = numbers.get(word);
        return sign ? Numbers.withSign(number, widths.get(word)) : number;
    }

    private void words(int word) {
        if (word < 0 || word >= size()) {
            throw new ArrayIndexOutOfBoundsException("due");
        }
    }

    private void limbs(int word, int limb) {
        if (limb < 0 || limb >= Numbers.limbs(widths.get(word))) {
            throw new ArrayIndexOutOfBoundsException("due");
        }
    }

    private static void refuse(boolean wrong) {
        if (wrong) {
            throw new IllegalArgumentException("due");
        }
    }
}
