/**
 * There are 600 words at most (promise 2 and all that makes words). An object's first 512 calls
 * make fewer, so the document leaves this free; the program keeps the limit all the same.
 */
public final class RoomTest {
    private static final Due DUE = new Due("RoomTest");
    private static final Class<UnsupportedOperationException> FULL = UnsupportedOperationException.class;
    private static final Class<ArrayIndexOutOfBoundsException> INDEX = ArrayIndexOutOfBoundsException.class;
    private static final Class<IllegalArgumentException> ARGUMENT = IllegalArgumentException.class;

    public static void main(String[] args) {
        lastWord();
        full();
        firstOneTold();
        whatMakesNoWord();
        DUE.end();
    }

    /** So many words of 16 bits; words 0, 1 and 2 are 0, one and 0x8000; flags C, O, Z and BY ZERO. */
    private static WidthWords holding(int many) {
        WidthWords words = new WidthWords(16);
        for (int number = 0; number < many - 3; number++) {
            DUE.same("word()", words.word(), number);
        }
        words.set(1, 0, 0x3C00);
        words.set(2, 0, 0x8000);
        words.real(3, 1, 0, 0);
        words.op(0, 2, 2);
        DUE.same("the last of " + many, words.field(2, 14, 15), many - 1);
        return words;
    }

    private static void lastWord() {
        DUE.about("UnsupportedOperationException, here and in all that makes words: when there are 600");
        DUE.same("word()", holding(599).word(), 599);
        DUE.same("op", holding(599).op(2, 1, 2), 599);
        DUE.same("field", holding(599).field(1, 10, 13), 599);
        DUE.same("join", holding(599).join(1, 2), 599);
        DUE.same("extend", holding(599).extend(2, 512, true), 599);
        DUE.same("real", holding(599).real(0, 1, 1, 0), 599);
        WidthWords words = holding(599);
        words.op(16, 1, 0);
        DUE.same("the last word's limb", words.limb(599, 0), 0xC3FF);
        DUE.unchanged("word() behind it", words, FULL, x -> x.word());
    }

    private static void full() {
        DUE.about("UnsupportedOperationException, here and in all that makes words: when there are 600");
        WidthWords words = holding(600);
        DUE.unchanged("word()", words, FULL, x -> x.word());
        for (int kind = 0; kind < 19; kind++) {
            int asked = kind;
            DUE.unchanged("op(" + kind + ")", words, FULL, x -> x.op(asked, 2, 1));
        }
        DUE.unchanged("op(0) of the last word", words, FULL, x -> x.op(0, 599, 599));
        DUE.unchanged("field of the last word", words, FULL, x -> x.field(599, 0, 1));
        DUE.unchanged("op(16) without b", words, FULL, x -> x.op(16, 2, 600));
        DUE.unchanged("field", words, FULL, x -> x.field(0, 0, 3));
        DUE.unchanged("join", words, FULL, x -> x.join(0, 1));
        DUE.unchanged("extend", words, FULL, x -> x.extend(0, 20, true));
        for (int way = 0; way < 5; way++) {
            int asked = way;
            DUE.unchanged("real", words, FULL, x -> x.real(0, 1, 1, asked));
        }
    }

    private static void firstOneTold() {
        DUE.about("Of several exceptions the first one told is thrown");
        WidthWords words = holding(600);
        DUE.unchanged("op by 0", words, ArithmeticException.class, x -> x.op(4, 1, 0));
        DUE.unchanged("op(19)", words, ARGUMENT, x -> x.op(19, 1, 0));
        DUE.unchanged("op of two widths", words, ARGUMENT, x -> x.op(0, 1, 599));
        DUE.unchanged("op(18) of no whole bytes", words, ARGUMENT, x -> x.op(18, 599, 0));
        DUE.unchanged("op of no word", words, INDEX, x -> x.op(4, 600, 0));
        DUE.unchanged("field not in the word", words, ARGUMENT, x -> x.field(0, 0, 16));
        DUE.unchanged("field of no word", words, INDEX, x -> x.field(600, 0, 0));
        DUE.unchanged("extend too narrow", words, ARGUMENT, x -> x.extend(0, 15, true));
        DUE.unchanged("extend of no word", words, INDEX, x -> x.extend(-1, 20, true));
        DUE.unchanged("join of no word", words, INDEX, x -> x.join(0, 600));
        DUE.unchanged("real(4)", words, ARGUMENT, x -> x.real(4, 0, 0, 0));
        DUE.unchanged("real in way 5", words, ARGUMENT, x -> x.real(0, 0, 0, 5));
        DUE.unchanged("real of 2 bits", words, ARGUMENT, x -> x.real(0, 599, 599, 0));
        DUE.unchanged("real of no word", words, INDEX, x -> x.real(0, 0, 600, 0));
    }

    private static void whatMakesNoWord() {
        DUE.about("in all that makes words");
        WidthWords words = holding(600);
        DUE.same("set", words.set(598, 0, 7), false);
        DUE.same("limb", words.limb(598, 0), 7);
        DUE.same("compare", words.compare(1, 2, false), -1);
        DUE.same("bit", words.bit(2, 15), true);
        DUE.same("count", words.count(598), 3);
        DUE.same("width", words.width(599), 2);
        DUE.same("flag", words.flag(0), 1);
        DUE.same("flags", words.flags(), 2);
    }
}
