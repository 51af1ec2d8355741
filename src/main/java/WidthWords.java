/**
 * Words of 1 to 512 bits, kept by number, and numbers with a point in words of 8, 16 and 32 bits.
 *
 * Every row of limbs that a call needs is made with the object and used again, so that no call
 * makes anything new.
 */
public final class WidthWords {
    private static final int MOST_WORDS = 600;
    private static final int MOST_BITS = 512;
    private static final int LIMB_BITS = 64;
    private static final int LIMBS = MOST_BITS / LIMB_BITS;
    /** One limb more than a word has, so that a carry out of 512 bits still has its place. */
    private static final int ROW = LIMBS + 1;
    private static final long LOW_HALF = 0xFFFFFFFFL;
    private static final long HIGHEST_BIT = 1L << 63;

    private static final int KIND_PRODUCT_ABOVE = 3;
    private static final int KIND_QUOTIENT = 4;
    private static final int KIND_SIGNED_QUOTIENT = 6;
    private static final int KIND_SIGNED_REST = 7;
    private static final int KIND_MOVED_UP = 8;
    private static final int KIND_MOVED_DOWN_SIGNED = 10;
    private static final int KIND_TURNED_DOWN = 12;
    private static final int KIND_NOT = 16;
    private static final int KIND_BITS_REVERSED = 17;
    private static final int KIND_BYTES_REVERSED = 18;

    private final int newWidth;
    private final int[] widths = new int[MOST_WORDS];
    private final long[] store = new long[MOST_WORDS * LIMBS];
    private int size = 0;
    private final long[] left = new long[ROW];
    private final long[] right = new long[ROW];
    private final long[] made = new long[ROW];
    private final Operations operations = new Operations();
    private final PointNumbers pointNumbers = new PointNumbers();

    public WidthWords(int bits) {
        newWidth = 1 + Math.floorMod(bits - 1, MOST_BITS);
    }

    public int word() throws UnsupportedOperationException {
        requireRoom();
        Rows.clear(made);
        return keepMade(newWidth);
    }

    public boolean set(int word, int limb, long v) throws ArrayIndexOutOfBoundsException {
        requireWord(word);
        requireLimb(word, limb);
        long kept = v & Rows.maskOf(widths[word], limb);
        store[word * LIMBS + limb] = kept;
        return kept != v;
    }

    public int op(int kind, int a, int b) throws ArrayIndexOutOfBoundsException, IllegalArgumentException, ArithmeticException, UnsupportedOperationException {
        boolean alone = kind >= KIND_NOT && kind <= KIND_BYTES_REVERSED;
        requireWord(a);
        if (!alone) {
            requireWord(b);
        }
        requireKind(kind, KIND_BYTES_REVERSED);
        if (!alone) {
            requireOneWidth(a, b);
        }
        if (kind == KIND_BYTES_REVERSED && (widths[a] & 7) != 0) {
            throw new IllegalArgumentException("the word has no whole bytes");
        }
        load(a, left);
        // The operations of one word get it twice: b need not be a word.
        load(alone ? a : b, right);
        if (kind >= KIND_QUOTIENT && kind <= KIND_SIGNED_REST && Rows.isNought(right)) {
            throw new ArithmeticException("a quotient or rest by 0");
        }
        requireRoom();
        operations.run(kind, widths[a], left, right, made);
        return keepMade(widths[a]);
    }

    public int flag(int kind) throws IllegalArgumentException {
        switch (kind) {
            case 0:
                return operations.carry;
            case 1:
                return operations.overflow;
            case 2:
                return operations.zero;
            case 3:
                return operations.negative;
            default:
                throw new IllegalArgumentException("there is no such flag");
        }
    }

    public int field(int word, int from, int to) throws ArrayIndexOutOfBoundsException, IllegalArgumentException, UnsupportedOperationException {
        requireWord(word);
        if (from < 0 || to >= widths[word] || from > to) {
            throw new IllegalArgumentException("the word has no such field");
        }
        requireRoom();
        load(word, left);
        Rows.moveUp(left, -from, made);
        return keepMade(to - from + 1);
    }

    public int join(int a, int b) throws ArrayIndexOutOfBoundsException, IllegalArgumentException, UnsupportedOperationException {
        requireWord(a);
        requireWord(b);
        int joined = widths[a] + widths[b];
        if (joined > MOST_BITS) {
            throw new IllegalArgumentException("both have more than 512 bits");
        }
        requireRoom();
        load(a, left);
        load(b, made);
        Rows.orMovedUp(left, widths[b], made);
        return keepMade(joined);
    }

    public int extend(int word, int bits, boolean sign) throws ArrayIndexOutOfBoundsException, IllegalArgumentException, UnsupportedOperationException {
        requireWord(word);
        if (bits < widths[word] || bits > MOST_BITS) {
            throw new IllegalArgumentException("the word can't have that width");
        }
        requireRoom();
        load(word, made);
        if (sign && isNegative(word)) {
            Rows.fillFrom(made, widths[word]);
        }
        return keepMade(bits);
    }

    public int compare(int a, int b, boolean sign) throws ArrayIndexOutOfBoundsException, IllegalArgumentException {
        requireWord(a);
        requireWord(b);
        requireOneWidth(a, b);
        if (sign && isNegative(a) != isNegative(b)) {
            return isNegative(a) ? -1 : 1;
        }
        for (int k = LIMBS - 1; k >= 0; k--) {
            long x = store[a * LIMBS + k];
            long y = store[b * LIMBS + k];
            if (x != y) {
                // Java compares with sign: the highest bit turned over makes that the order without.
                return (x ^ HIGHEST_BIT) < (y ^ HIGHEST_BIT) ? -1 : 1;
            }
        }
        return 0;
    }

    public boolean bit(int word, int k) throws ArrayIndexOutOfBoundsException, IllegalArgumentException {
        requireWord(word);
        if (k < 0 || k >= widths[word]) {
            throw new IllegalArgumentException("the word has no such bit");
        }
        return hasBit(word, k);
    }

    public long limb(int word, int k) throws ArrayIndexOutOfBoundsException {
        requireWord(word);
        requireLimb(word, k);
        return store[word * LIMBS + k];
    }

    public int real(int kind, int a, int b, int rounding) throws ArrayIndexOutOfBoundsException, IllegalArgumentException, UnsupportedOperationException {
        requireWord(a);
        requireWord(b);
        requireKind(kind, PointNumbers.LAST_KIND);
        requireKind(rounding, PointNumbers.WAY_NEAREST_AWAY);
        requireOneWidth(a, b);
        int width = widths[a];
        if (width != 8 && width != 16 && width != 32) {
            throw new IllegalArgumentException("the words are too wide or too narrow for a point");
        }
        requireRoom();
        pointNumbers.choose(width, rounding);
        made[0] = pointNumbers.answer(kind, store[a * LIMBS], store[b * LIMBS]);
        return keepMade(width);
    }

    public int flags() {
        return pointNumbers.raised;
    }

    public int count(int word) throws ArrayIndexOutOfBoundsException {
        requireWord(word);
        int ones = 0;
        for (int k = 0; k < LIMBS; k++) {
            ones += Long.bitCount(store[word * LIMBS + k]);
        }
        return ones;
    }

    public int width(int word) throws ArrayIndexOutOfBoundsException {
        requireWord(word);
        return widths[word];
    }

    private void requireWord(int word) {
        if (word < 0 || word >= size) {
            throw new ArrayIndexOutOfBoundsException("there is no such word");
        }
    }

    private void requireLimb(int word, int k) {
        if (k < 0 || k >= LIMBS || k * LIMB_BITS >= widths[word]) {
            throw new ArrayIndexOutOfBoundsException("there is no such limb");
        }
    }

    private void requireKind(int kind, int last) {
        if (kind < 0 || kind > last) {
            throw new IllegalArgumentException("there is no such kind or way");
        }
    }

    private void requireOneWidth(int a, int b) {
        if (widths[a] != widths[b]) {
            throw new IllegalArgumentException("the words have not one width");
        }
    }

    private void requireRoom() {
        if (size >= MOST_WORDS) {
            throw new UnsupportedOperationException("there are 600 words");
        }
    }

    private void load(int word, long[] row) {
        System.arraycopy(store, word * LIMBS, row, 0, LIMBS);
        row[LIMBS] = 0;
    }

    /** The row made, cut to a width, is the newest word; there is room for it. */
    private int keepMade(int width) {
        int number = size;
        Rows.cut(made, width);
        System.arraycopy(made, 0, store, number * LIMBS, LIMBS);
        widths[number] = width;
        size = number + 1;
        return number;
    }

    private boolean hasBit(int word, int k) {
        return (store[word * LIMBS + (k >> 6)] >>> (k & 63) & 1) != 0;
    }

    private boolean isNegative(int word) {
        return hasBit(word, widths[word] - 1);
    }

    /** Rows of limbs, the lowest one first. */
    static final class Rows {
        private Rows() {
        }

        static void clear(long[] row) {
            for (int k = 0; k < row.length; k++) {
                row[k] = 0;
            }
        }

        /** Those bits of limb k that a word of the width told has. */
        static long maskOf(int width, int k) {
            int bits = width - k * LIMB_BITS;
            if (bits >= LIMB_BITS) {
                return -1L;
            }
            return bits <= 0 ? 0L : (1L << bits) - 1;
        }

        static void cut(long[] row, int width) {
            for (int k = 0; k < row.length; k++) {
                row[k] &= maskOf(width, k);
            }
        }

        /** All bits from one on become 1. */
        static void fillFrom(long[] row, int from) {
            for (int k = 0; k < row.length; k++) {
                row[k] |= ~maskOf(from, k);
            }
        }

        static long limbOrNought(long[] row, int k) {
            return k >= 0 && k < row.length ? row[k] : 0L;
        }

        /** Bit k, which is 0 outside the row. */
        static int bitOrNought(long[] row, int k) {
            return (int) (limbOrNought(row, k >> 6) >>> (k & 63)) & 1;
        }

        /** The 64 bits from one on, which may lie below the row, too. */
        static long bitsFrom(long[] row, int from) {
            int k = from >> 6;
            int within = from & 63;
            long low = limbOrNought(row, k) >>> within;
            // A move by 64 would be one by 0 in Java.
            return within == 0 ? low : low | limbOrNought(row, k + 1) << (LIMB_BITS - within);
        }

        /** A row is another one, n places higher (lower when n is below 0). */
        static void moveUp(long[] row, int n, long[] out) {
            for (int k = 0; k < out.length; k++) {
                out[k] = bitsFrom(row, k * LIMB_BITS - n);
            }
        }

        /** Likewise, but the bits that the row has already stay. */
        static void orMovedUp(long[] row, int n, long[] out) {
            for (int k = 0; k < out.length; k++) {
                out[k] |= bitsFrom(row, k * LIMB_BITS - n);
            }
        }

        static boolean isNought(long[] row) {
            long together = 0;
            for (int k = 0; k < row.length; k++) {
                together |= row[k];
            }
            return together == 0;
        }

        static void add(long[] a, long[] b, long[] out) {
            long carry = 0;
            for (int k = 0; k < ROW; k++) {
                long x = a[k];
                long y = b[k];
                long sum = x + y + carry;
                out[k] = sum;
                carry = ((x & y) | ((x | y) & ~sum)) >>> 63;
            }
        }

        static void subtract(long[] a, long[] b, long[] out) {
            long borrow = 0;
            for (int k = 0; k < ROW; k++) {
                long x = a[k];
                long y = b[k];
                long difference = x - y - borrow;
                out[k] = difference;
                borrow = ((~x & y) | ((~x | y) & difference)) >>> 63;
            }
        }

        static void negate(long[] row, int width) {
            long carry = 1;
            for (int k = 0; k < row.length; k++) {
                long turned = ~row[k] + carry;
                carry = carry == 1 && turned == 0 ? 1 : 0;
                row[k] = turned;
            }
            cut(row, width);
        }

        /** The row's number, or the most told if it is above that. */
        static int atMost(long[] row, int most) {
            for (int k = 1; k < row.length; k++) {
                if (row[k] != 0) {
                    return most;
                }
            }
            return row[0] < 0 || row[0] > most ? most : (int) row[0];
        }

        static int restBy(long[] row, int divisor) {
            if (divisor <= 0) {
                return 0;
            }
            long rest = 0;
            for (int k = row.length - 1; k >= 0; k--) {
                rest = (rest << 32 | row[k] >>> 32) % divisor;
                rest = (rest << 32 | row[k] & LOW_HALF) % divisor;
            }
            return (int) rest;
        }

        /** How many bits the row has up to its highest 1. */
        static int lengthOf(long[] row) {
            for (int k = row.length - 1; k >= 0; k--) {
                if (row[k] != 0) {
                    return k * LIMB_BITS + lengthOfLimb(row[k]);
                }
            }
            return 0;
        }

        static int lengthOfLimb(long limb) {
            int length = 0;
            while (length < LIMB_BITS && limb >>> length != 0) {
                length++;
            }
            return length;
        }

        static long bytesReversed(long limb) {
            long pairs = swapped(limb, 0x00FF00FF00FF00FFL, 8);
            return swapped(swapped(pairs, 0x0000FFFF0000FFFFL, 16), LOW_HALF, 32);
        }

        static long bitsReversed(long limb) {
            long pairs = swapped(limb, 0x5555555555555555L, 1);
            long fours = swapped(pairs, 0x3333333333333333L, 2);
            return bytesReversed(swapped(fours, 0x0F0F0F0F0F0F0F0FL, 4));
        }

        private static long swapped(long limb, long mask, int places) {
            return (limb >>> places & mask) | (limb & mask) << places;
        }
    }

    /** Products and quotients of rows, in digits of 32 bits. */
    static final class Digits {
        private static final int DIGIT_BITS = 32;

        final long[] product = new long[2 * LIMBS];
        final long[] quotient = new long[ROW];
        final long[] rest = new long[ROW];
        private final long[] moved = new long[ROW];
        private final long[] upper = new long[2 * ROW];
        private final long[] lower = new long[2 * ROW];
        private final long[] answer = new long[4 * LIMBS];

        void multiply(long[] a, long[] b, int width) {
            int digits = digitsOf(width);
            split(a, upper);
            split(b, lower);
            Rows.clear(answer);
            for (int i = 0; i < digits; i++) {
                addMultiple(upper[i], i, digits);
            }
            merge(answer, product);
        }

        /** Adds a digit's product with the lower row to the answer, from a place on. */
        private void addMultiple(long digit, int place, int digits) {
            long carry = 0;
            for (int j = 0; j < digits; j++) {
                // Both factors at their greatest and both addends just fill 64 bits.
                long sum = digit * lower[j] + answer[place + j] + carry;
                answer[place + j] = sum & LOW_HALF;
                carry = sum >>> DIGIT_BITS;
            }
            answer[place + digits] = carry;
        }

        /** Quotient and rest without sign, digit by digit; b is not 0. */
        void divide(long[] a, long[] b, int width) {
            int length = Rows.lengthOf(b);
            int digits = digitsOf(length);
            // With the divisor's highest bit at the top of a digit, a guess from the highest
            // digits is at most 2 too great.
            int up = -length & (DIGIT_BITS - 1);
            Rows.moveUp(a, up, moved);
            split(moved, upper);
            Rows.moveUp(b, up, moved);
            split(moved, lower);
            Rows.clear(answer);
            if (digits > 0) {
                for (int place = digitsOf(width) - digits; place >= 0; place--) {
                    answer[place] = takeMultiple(place, digits);
                }
            }
            merge(answer, quotient);
            merge(upper, moved);
            Rows.moveUp(moved, -up, rest);
        }

        /** Takes the lower row from the upper one, from a place on, as often as it goes: how often. */
        private long takeMultiple(int place, int digits) {
            long top = upper[place + digits] << DIGIT_BITS | upper[place + digits - 1];
            long often = Math.min(quotientOf(top, lower[digits - 1]), LOW_HALF);
            boolean below = subtractMultiple(often, place, digits);
            for (int tries = 0; tries < 2 && below; tries++) {
                often--;
                below = !addBack(place, digits);
            }
            return often;
        }

        /** Whether what is left is below 0. */
        private boolean subtractMultiple(long often, int place, int digits) {
            long carry = 0;
            for (int i = 0; i < digits; i++) {
                long multiple = often * lower[i] + carry;
                long difference = upper[place + i] - (multiple & LOW_HALF);
                upper[place + i] = difference & LOW_HALF;
                carry = (multiple >>> DIGIT_BITS) + (difference >>> 63);
            }
            long difference = upper[place + digits] - carry;
            upper[place + digits] = difference & LOW_HALF;
            return difference < 0;
        }

        /** Whether what is left came back from below 0. */
        private boolean addBack(int place, int digits) {
            long carry = 0;
            for (int i = 0; i < digits; i++) {
                long sum = upper[place + i] + lower[i] + carry;
                upper[place + i] = sum & LOW_HALF;
                carry = sum >>> DIGIT_BITS;
            }
            long sum = upper[place + digits] + carry;
            upper[place + digits] = sum & LOW_HALF;
            return sum > LOW_HALF;
        }

        /** A limb without sign by a digit: Java divides with sign, so half of it is divided first. */
        private static long quotientOf(long limb, long digit) {
            if (digit <= 0) {
                return 0;
            }
            long quotient = (limb >>> 1) / digit << 1;
            return limb - quotient * digit >= digit ? quotient + 1 : quotient;
        }

        private static int digitsOf(int bits) {
            return (bits + DIGIT_BITS - 1) / DIGIT_BITS;
        }

        private static void split(long[] row, long[] digits) {
            for (int k = 0; k < row.length && 2 * k + 1 < digits.length; k++) {
                digits[2 * k] = row[k] & LOW_HALF;
                digits[2 * k + 1] = row[k] >>> DIGIT_BITS;
            }
        }

        private static void merge(long[] digits, long[] row) {
            for (int k = 0; k < row.length && 2 * k + 1 < digits.length; k++) {
                row[k] = digits[2 * k] | digits[2 * k + 1] << DIGIT_BITS;
            }
        }
    }

    /** The operations of words and the flags of the latest one. */
    static final class Operations {
        int carry = 0;
        int overflow = 0;
        int zero = 0;
        int negative = 0;
        private int width = 1;
        private final Digits digits = new Digits();
        private final long[] backwards = new long[LIMBS];

        /** The rows a and b hold words of one width, and are used up. */
        void run(int kind, int bits, long[] a, long[] b, long[] out) {
            width = bits;
            carry = 0;
            overflow = 0;
            switch (kind) {
                case 0:
                    sum(a, b, out);
                    break;
                case 1:
                    difference(a, b, out);
                    break;
                case 2:
                case 3:
                    product(kind, a, b, out);
                    break;
                case 4:
                case 5:
                case 6:
                case 7:
                    quotientOrRest(kind, a, b, out);
                    break;
                case 8:
                case 9:
                case 10:
                    moved(kind, a, b, out);
                    break;
                case 11:
                case 12:
                    turned(kind, a, b, out);
                    break;
                case 13:
                case 14:
                case 15:
                case 16:
                    bitByBit(kind, a, b, out);
                    break;
                default:
                    reversed(kind, a, out);
                    break;
            }
            Rows.cut(out, width);
            zero = Rows.isNought(out) ? 1 : 0;
            negative = highest(out);
        }

        private int highest(long[] row) {
            return Rows.bitOrNought(row, width - 1);
        }

        private void sum(long[] a, long[] b, long[] out) {
            Rows.add(a, b, out);
            carry = Rows.bitOrNought(out, width);
            overflow = highest(a) == highest(b) && highest(out) != highest(a) ? 1 : 0;
        }

        private void difference(long[] a, long[] b, long[] out) {
            Rows.subtract(a, b, out);
            // Below 0 all bits above the word are 1, and a row has always such a bit.
            carry = Rows.bitOrNought(out, width);
            overflow = highest(a) != highest(b) && highest(out) != highest(a) ? 1 : 0;
        }

        private void product(int kind, long[] a, long[] b, long[] out) {
            digits.multiply(a, b, width);
            Rows.moveUp(digits.product, -width, out);
            if (kind == KIND_PRODUCT_ABOVE) {
                return;
            }
            carry = Rows.isNought(out) ? 0 : 1;
            boolean fits = fitsWithSign(a, b, out);
            Rows.moveUp(digits.product, 0, out);
            overflow = fits ? 0 : 1;
        }

        /**
         * Whether the product with sign fits. With sign a word counts less by 2 to the power width
         * when its highest bit is 1, so the upper half is less by the other word then; the product
         * fits when all bits of that half are the lower half's highest one.
         */
        private boolean fitsWithSign(long[] a, long[] b, long[] above) {
            int sign = Rows.bitOrNought(digits.product, width - 1);
            if (highest(a) == 1) {
                Rows.subtract(above, b, above);
            }
            if (highest(b) == 1) {
                Rows.subtract(above, a, above);
            }
            Rows.cut(above, width);
            if (sign == 1) {
                Rows.negate(above, width);
                return Rows.atMost(above, 2) == 1;
            }
            return Rows.isNought(above);
        }

        private void quotientOrRest(int kind, long[] a, long[] b, long[] out) {
            boolean signed = kind >= KIND_SIGNED_QUOTIENT;
            boolean aBelow = signed && highest(a) == 1;
            boolean bBelow = signed && highest(b) == 1;
            if (aBelow) {
                Rows.negate(a, width);
            }
            if (bBelow) {
                Rows.negate(b, width);
            }
            digits.divide(a, b, width);
            boolean isQuotient = kind == KIND_QUOTIENT || kind == KIND_SIGNED_QUOTIENT;
            Rows.moveUp(isQuotient ? digits.quotient : digits.rest, 0, out);
            boolean answerBelow = isQuotient ? aBelow != bBelow : aBelow;
            if (signed && isQuotient && !answerBelow) {
                overflow = highest(out);
            }
            if (answerBelow) {
                Rows.negate(out, width);
            }
        }

        private void moved(int kind, long[] a, long[] b, long[] out) {
            // One place beyond the width moves all bits out, and so do more.
            int n = Rows.atMost(b, width + 1);
            if (kind == KIND_MOVED_UP) {
                Rows.moveUp(a, n, out);
                carry = Rows.bitOrNought(a, width - n);
                return;
            }
            Rows.moveUp(a, -n, out);
            carry = Rows.bitOrNought(a, n - 1);
            if (kind == KIND_MOVED_DOWN_SIGNED && highest(a) == 1) {
                Rows.fillFrom(out, Math.max(width - n, 0));
                carry = n > width ? 1 : carry;
            }
        }

        private void turned(int kind, long[] a, long[] b, long[] out) {
            int n = Rows.restBy(b, width);
            int up = kind == KIND_TURNED_DOWN ? width - n : n;
            Rows.moveUp(a, up, out);
            Rows.orMovedUp(a, up - width, out);
        }

        private void bitByBit(int kind, long[] a, long[] b, long[] out) {
            for (int k = 0; k < LIMBS; k++) {
                switch (kind) {
                    case 13:
                        out[k] = a[k] & b[k];
                        break;
                    case 14:
                        out[k] = a[k] | b[k];
                        break;
                    case 15:
                        out[k] = a[k] ^ b[k];
                        break;
                    default:
                        out[k] = ~a[k];
                        break;
                }
            }
        }

        /** All 512 bits are turned round; the word's own are the upper ones then. */
        private void reversed(int kind, long[] a, long[] out) {
            for (int k = 0; k < LIMBS; k++) {
                long limb = a[LIMBS - 1 - k];
                backwards[k] = kind == KIND_BITS_REVERSED ? Rows.bitsReversed(limb) : Rows.bytesReversed(limb);
            }
            Rows.moveUp(backwards, width - MOST_BITS, out);
        }
    }

    /**
     * Numbers with a point of one width, and the flags of the latest answer. What is to be rounded
     * is whole * 2 to a power, with a sign; it is held in fields until it is.
     */
    static final class PointNumbers {
        static final int LAST_KIND = 3;
        static final int WAY_NEAREST_AWAY = 4;
        private static final int WAY_NEAREST_EVEN = 0;
        private static final int WAY_UP = 2;
        private static final int WAY_DOWN = 3;
        private static final int KIND_DIFFERENCE = 1;
        private static final int KIND_PRODUCT = 2;
        private static final int NOT_VALID = 1;
        private static final int BY_ZERO = 2;
        private static final int TOO_GREAT = 4;
        private static final int TOO_SMALL = 8;
        private static final int NOT_EXACT = 16;
        /** So many places below a sum's or quotient's last one tell how it is rounded. */
        private static final int SPARE_BITS = 36;
        /** No number that is rounded has so many bits. */
        private static final int FAR = 62;

        int raised = 0;
        private int way = 0;
        private int fractionBits = 3;
        private int exponentOnes = 15;
        private int lowestPower = -9;
        private long signBit = 128;
        private boolean sign = false;
        private long whole = 0;
        private int power = 0;

        void choose(int width, int rounding) {
            way = rounding;
            fractionBits = width == 8 ? 3 : width == 16 ? 10 : 23;
            int exponentBits = width - 1 - fractionBits;
            exponentOnes = (1 << exponentBits) - 1;
            int bias = (1 << (exponentBits - 1)) - 1;
            lowestPower = 1 - bias - fractionBits;
            signBit = 1L << (width - 1);
        }

        long answer(int kind, long a, long second) {
            raised = 0;
            if (isNone(a) || isNone(second)) {
                return none();
            }
            long b = kind == KIND_DIFFERENCE ? second ^ signBit : second;
            boolean isQuotient = kind == LAST_KIND;
            if (isInfinite(a) || isInfinite(b) || isQuotient && isNought(b)) {
                return withoutRounding(kind, a, b);
            }
            if (isQuotient) {
                divide(a, b);
            } else if (kind == KIND_PRODUCT) {
                multiply(a, b);
            } else {
                add(a, b);
            }
            return rounded();
        }

        /** What infinite ones and quotients by 0 answer; a - b comes with b's sign turned over. */
        private long withoutRounding(int kind, long a, long b) {
            boolean otherSigns = signOf(a) != signOf(b);
            boolean bothInfinite = isInfinite(a) && isInfinite(b);
            if (kind <= KIND_DIFFERENCE) {
                long infiniteOne = isInfinite(a) ? a : b;
                return bothInfinite && otherSigns ? notValid() : infiniteOne;
            }
            if (kind == KIND_PRODUCT) {
                return isNought(a) || isNought(b) ? notValid() : infinite(otherSigns);
            }
            if (bothInfinite || isNought(a) && isNought(b)) {
                return notValid();
            }
            if (isInfinite(b)) {
                return withSign(otherSigns, 0);
            }
            raised = isInfinite(a) ? 0 : BY_ZERO;
            return infinite(otherSigns);
        }

        private void add(long a, long b) {
            boolean otherSigns = signOf(a) != signOf(b);
            boolean aAbove = powerOf(a) >= powerOf(b);
            long high = aAbove ? a : b;
            long low = aAbove ? b : a;
            int apart = powerOf(high) - powerOf(low);
            int up = Math.min(apart, SPARE_BITS);
            long highPart = wholeOf(high) << up;
            long lowPart = movedDown(wholeOf(low), apart - up);
            long total = otherSigns ? highPart - lowPart : highPart + lowPart;
            whole = total < 0 ? -total : total;
            power = powerOf(high) - up;
            sign = signOf(high) != total < 0;
            if (total == 0) {
                sign = otherSigns ? way == WAY_DOWN : signOf(a);
            }
        }

        private void multiply(long a, long b) {
            sign = signOf(a) != signOf(b);
            whole = wholeOf(a) * wholeOf(b);
            power = powerOf(a) + powerOf(b);
        }

        /** The divisor is not 0; it is looked at all the same before it divides. */
        private void divide(long a, long b) {
            // A small fraction is moved up first, so that the quotient has enough bits.
            int up = fractionBits + 1 - Rows.lengthOfLimb(wholeOf(a)) + SPARE_BITS;
            long dividend = wholeOf(a) << up;
            long divisor = wholeOf(b);
            long quotient = divisor > 0 ? dividend / divisor : 0;
            sign = signOf(a) != signOf(b);
            whole = quotient * divisor == dividend ? quotient : quotient | 1;
            power = powerOf(a) - up - powerOf(b);
        }

        /**
         * Moves bits down; when bits that are 1 go out, the lowest one that stays is 1: the number
         * stays between the same two even ones, and more than one bit goes when it is rounded.
         */
        private static long movedDown(long bits, int n) {
            int places = Math.min(n, FAR);
            long stays = bits >>> places;
            return stays << places == bits ? stays : stays | 1;
        }

        private long rounded() {
            if (whole == 0) {
                return withSign(sign, 0);
            }
            int highestPower = power + Rows.lengthOfLimb(whole) - 1;
            int lastPower = Math.max(highestPower - fractionBits, lowestPower);
            if (lastPower <= power) {
                return finite(whole << (power - lastPower), lastPower);
            }
            int places = Math.min(lastPower - power, FAR);
            long kept = whole >>> places;
            long gone = whole - (kept << places);
            if (gone != 0) {
                raised |= NOT_EXACT;
                raised |= highestPower < lowestPower + fractionBits ? TOO_SMALL : 0;
            }
            boolean away = goesAway(kept, gone, 1L << (places - 1));
            return finite(away ? kept + 1 : kept, lastPower);
        }

        /** Whether what is gone makes the number that is kept one greater without sign. */
        private boolean goesAway(long kept, long gone, long half) {
            switch (way) {
                case WAY_NEAREST_EVEN:
                    return gone > half || gone == half && (kept & 1) == 1;
                case WAY_UP:
                    return gone != 0 && !sign;
                case WAY_DOWN:
                    return gone != 0 && sign;
                case WAY_NEAREST_AWAY:
                    return gone >= half;
                default:
                    return false;
            }
        }

        /** The word of a number that has the bits of a fraction and one more, or just outgrew them. */
        private long finite(long kept, int lastPower) {
            long hidden = 1L << fractionBits;
            if (kept < hidden) {
                return withSign(sign, kept);
            }
            boolean outgrown = kept == hidden << 1;
            long fraction = outgrown ? 0 : kept - hidden;
            int exponent = lastPower - lowestPower + (outgrown ? 2 : 1);
            if (exponent >= exponentOnes) {
                return tooGreat();
            }
            return withSign(sign, (long) exponent << fractionBits | fraction);
        }

        private long tooGreat() {
            raised |= TOO_GREAT | NOT_EXACT;
            boolean nearest = way == WAY_NEAREST_EVEN || way == WAY_NEAREST_AWAY;
            boolean away = way == (sign ? WAY_DOWN : WAY_UP);
            // The finite numbers end just below the infinite one.
            return nearest || away ? infinite(sign) : infinite(sign) - 1;
        }

        private long withSign(boolean below, long bits) {
            return below ? bits | signBit : bits;
        }

        private long infinite(boolean below) {
            return withSign(below, (long) exponentOnes << fractionBits);
        }

        private long none() {
            return infinite(false) | 1L << (fractionBits - 1);
        }

        private long notValid() {
            raised = NOT_VALID;
            return none();
        }

        private boolean signOf(long bits) {
            return (bits & signBit) != 0;
        }

        private int exponentOf(long bits) {
            return (int) (bits >>> fractionBits) & exponentOnes;
        }

        private long fractionOf(long bits) {
            return bits & ((1L << fractionBits) - 1);
        }

        private boolean isNone(long bits) {
            return exponentOf(bits) == exponentOnes && fractionOf(bits) != 0;
        }

        private boolean isInfinite(long bits) {
            return exponentOf(bits) == exponentOnes && fractionOf(bits) == 0;
        }

        private boolean isNought(long bits) {
            return (bits & ~signBit) == 0;
        }

        /** The number without sign and point: what its power is multiplied by. */
        private long wholeOf(long bits) {
            return exponentOf(bits) == 0 ? fractionOf(bits) : fractionOf(bits) + (1L << fractionBits);
        }

        private int powerOf(long bits) {
            return lowestPower + Math.max(exponentOf(bits), 1) - 1;
        }
    }
}
