import java.math.BigInteger;

/**
 * Numbers with a point by the document's words: a finite one is a whole multiple of the least one,
 * and the words without sign, counted on beyond the infinite one, stand in the order of their
 * numbers, so that the two next to an exact fraction are found by halving.
 */
final class RealModel {
    final int width;
    final int fractionBits;
    final long infinite;
    final long signBit;
    private final int leastPower;
    private final long beyondAll;

    long answer;
    int flags;

    RealModel(int width) {
        this.width = width;
        this.fractionBits = width == 8 ? 3 : width == 16 ? 10 : 23;
        int exponentBits = width == 8 ? 4 : width == 16 ? 5 : 8;
        this.signBit = 1L << (width - 1);
        this.infinite = ((1L << exponentBits) - 1) << fractionBits;
        int bias = (1 << (exponentBits - 1)) - 1;
        this.leastPower = 1 - bias - fractionBits;
        this.beyondAll = (4L << exponentBits) << fractionBits;
    }

    private boolean isNone(long x) {
        return (x & ~signBit) > infinite;
    }

    private boolean isInfinite(long x) {
        return (x & ~signBit) == infinite;
    }

    private boolean isNought(long x) {
        return (x & ~signBit) == 0;
    }

    private boolean sign(long x) {
        return (x & signBit) != 0;
    }

    /** How many times the least number above 0 a word without sign is. */
    private BigInteger times(long x) {
        long exponent = x >> fractionBits;
        long fraction = x & ((1L << fractionBits) - 1);
        if (exponent == 0) {
            return BigInteger.valueOf(fraction);
        }
        return BigInteger.valueOf(fraction + (1L << fractionBits)).shiftLeft((int) exponent - 1);
    }

    private BigInteger timesWithSign(long x) {
        BigInteger times = times(x & ~signBit);
        return sign(x) ? times.negate() : times;
    }

    void ask(int kind, long a, long b, int way) {
        flags = 0;
        long other = kind == 1 ? b ^ signBit : b;
        if (isNone(a) || isNone(b)) {
            answer = infinite | 1L << (fractionBits - 1);
        } else if (kind < 2) {
            sum(a, other, way);
        } else if (kind == 2) {
            product(a, b, way);
        } else {
            quotient(a, b, way);
        }
    }

    private void notValid() {
        answer = infinite | 1L << (fractionBits - 1);
        flags = 1;
    }

    private void special(boolean sign, long without) {
        answer = without | (sign ? signBit : 0);
    }

    private void sum(long a, long b, int way) {
        if (isInfinite(a) && isInfinite(b) && a != b) {
            notValid();
        } else if (isInfinite(a)) {
            answer = a;
        } else if (isInfinite(b)) {
            answer = b;
        } else {
            BigInteger exact = timesWithSign(a).add(timesWithSign(b));
            if (exact.signum() == 0) {
                special(sign(a) == sign(b) ? sign(a) : way == 3, 0);
            } else {
                round(exact.signum() < 0, exact.abs(), BigInteger.ONE, way);
            }
        }
    }

    private void product(long a, long b, int way) {
        boolean sign = sign(a) != sign(b);
        if (isInfinite(a) && isNought(b) || isNought(a) && isInfinite(b)) {
            notValid();
        } else if (isInfinite(a) || isInfinite(b)) {
            special(sign, infinite);
        } else if (isNought(a) || isNought(b)) {
            special(sign, 0);
        } else {
            BigInteger exact = times(a & ~signBit).multiply(times(b & ~signBit));
            round(sign, exact, BigInteger.ONE.shiftLeft(-leastPower), way);
        }
    }

    private void quotient(long a, long b, int way) {
        boolean sign = sign(a) != sign(b);
        if (isInfinite(a) && isInfinite(b) || isNought(a) && isNought(b)) {
            notValid();
        } else if (isInfinite(a)) {
            special(sign, infinite);
        } else if (isInfinite(b) || isNought(a)) {
            special(sign, 0);
        } else if (isNought(b)) {
            special(sign, infinite);
            flags = 2;
        } else {
            BigInteger exact = times(a & ~signBit).shiftLeft(-leastPower);
            round(sign, exact, times(b & ~signBit), way);
        }
    }

    /** The fraction above / below, counted in least numbers. */
    private void round(boolean sign, BigInteger above, BigInteger below, int way) {
        long low = 0;
        long high = beyondAll;
        while (high - low > 1) {
            long middle = low + high >> 1;
            if (times(middle).multiply(below).compareTo(above) <= 0) {
                low = middle;
            } else {
                high = middle;
            }
        }
        boolean exact = times(low).multiply(below).equals(above);
        long chosen = exact ? low : chosen(sign, above, below, low, way);
        if (!exact) {
            flags |= 16;
            boolean small = above.compareTo(times(1L << fractionBits).multiply(below)) < 0;
            flags |= small ? 8 : 0;
        }
        if (chosen >= infinite) {
            flags |= 4 | 16;
            boolean toInfinite = way == 0 || way == 4 || way == 2 && !sign || way == 3 && sign;
            chosen = toInfinite ? infinite : infinite - 1;
        }
        special(sign, chosen);
    }

    private long chosen(boolean sign, BigInteger above, BigInteger below, long low, int way) {
        if (way == 1 || way == 2 && sign || way == 3 && !sign) {
            return low;
        }
        if (way == 2 || way == 3) {
            return low + 1;
        }
        BigInteger both = times(low).add(times(low + 1)).multiply(below);
        int order = above.shiftLeft(1).compareTo(both);
        if (order != 0) {
            return order < 0 ? low : low + 1;
        }
        return way == 4 || low % 2 != 0 ? low + 1 : low;
    }
}
