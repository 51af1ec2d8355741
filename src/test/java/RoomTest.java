/**
 * There are 600 words at most (promise 2 and all that makes words). An object's first 512 calls
 * make fewer, so the document leaves this free; the program keeps the limit all the same.
 */
public final class RoomTest {
    private static final Due DUE = new Due("RoomTest");

    public static void main(String[] args) {
        WidthWords words = new WidthWords(16);
        for (int number = 0; number < 600; number++) {
            DUE.same("word()", words.word(), number);
        }
        words.set(1, 0, 0x3C00);
        for (int round = 0; round < 3; round++) {
            full(words);
            earlier(words);
        }
        DUE.same("flag(2)", words.flag(2), 0);
        DUE.same("flags()", words.flags(), 0);
        DUE.same("limb(599, 0)", words.limb(599, 0), 0);
        DUE.same("set(599, 0, 7)", words.set(599, 0, 7), false);
        DUE.same("limb(599, 0)", words.limb(599, 0), 7);
        words.set(599, 0, 0);
        DUE.end();
    }

    private static void full(WidthWords words) {
        Class<UnsupportedOperationException> due = UnsupportedOperationException.class;
        DUE.refused("word()", due, words::word);
        for (int kind = 0; kind < 19; kind++) {
            int asked = kind;
            DUE.refused("op(" + kind + ")", due, () -> words.op(asked, 0, 1));
        }
        DUE.refused("field", due, () -> words.field(0, 0, 3));
        DUE.refused("join", due, () -> words.join(0, 1));
        DUE.refused("extend", due, () -> words.extend(0, 20, true));
        DUE.refused("real", due, () -> words.real(3, 1, 0, 0));
    }

    /** What the document tells first is thrown first. */
    private static void earlier(WidthWords words) {
        DUE.refused("op by 0", ArithmeticException.class, () -> words.op(4, 1, 0));
        DUE.refused("op(19)", IllegalArgumentException.class, () -> words.op(19, 1, 0));
        DUE.refused("op of no word", ArrayIndexOutOfBoundsException.class, () -> words.op(4, 600, 0));
        DUE.refused("field", IllegalArgumentException.class, () -> words.field(0, 0, 16));
        DUE.refused("extend", IllegalArgumentException.class, () -> words.extend(0, 15, true));
        DUE.refused("join", ArrayIndexOutOfBoundsException.class, () -> words.join(0, 600));
        DUE.refused("real", IllegalArgumentException.class, () -> words.real(4, 0, 0, 0));
    }
}
