import java.util.ArrayList;
import java.util.List;
import java.util.Random;
import java.util.function.ToLongFunction;

/** The sentence for all promises: "a call that throws changes nothing". */
public final class RefusedTest {
    private static final Due DUE = new Due("RefusedTest");
    private static final Class<ArrayIndexOutOfBoundsException> INDEX = ArrayIndexOutOfBoundsException.class;
    private static final Class<IllegalArgumentException> ARGUMENT = IllegalArgumentException.class;
    private static final int NARROW = 0;
    private static final int NOUGHT = 1;
    private static final int WIDE = 2;
    private static final int NO_WORD = 40;

    private record Refused(String call, Class<? extends RuntimeException> due, ToLongFunction<WidthWords> asked) {
    }

    public static void main(String[] args) {
        DUE.about("a call that throws changes nothing");
        List<Refused> all = all();
        for (int last = 0; last < 4; last++) {
            for (Refused refused : all) {
                WidthWords words = prepared(last);
                DUE.unchanged(refused.call, words, refused.due, refused.asked);
                DUE.same("the next number after " + refused.call, words.word(), prepared(last).word());
            }
        }
        for (int seed = 0; seed < 400; seed++) {
            between(all, seed);
        }
        DUE.end();
    }

    /** Words 0 and 1 (which is 0) of 8 bits, word 2 of 13; the flags are others for each last one. */
    private static WidthWords prepared(int last) {
        WidthWords words = new WidthWords(8);
        words.word();
        words.word();
        words.extend(NARROW, 13, false);
        words.set(WIDE, 0, 0x1ABC);
        words.set(NARROW, 0, 0x38);
        if (last == 1) {
            words.real(3, NARROW, NOUGHT, 0);
            words.set(NARROW, 0, 0x80);
            words.op(0, NARROW, NARROW);
        } else if (last == 2) {
            words.set(NARROW, 0, 1);
            words.real(2, NARROW, NARROW, 2);
            words.op(1, NOUGHT, NARROW);
        } else if (last == 3) {
            words.set(NARROW, 0, 0x77);
            words.real(0, NARROW, NARROW, 3);
            words.op(13, NARROW, NARROW);
        }
        return words;
    }

    private static List<Refused> all() {
        List<Refused> all = new ArrayList<>();
        for (int none : new int[] {-1, NO_WORD, Integer.MIN_VALUE, Integer.MAX_VALUE}) {
            all.add(new Refused("set of no word", INDEX, x -> x.set(none, 0, 9) ? 1 : 0));
            all.add(new Refused("set of no limb", INDEX, x -> x.set(NARROW, none, 9) ? 1 : 0));
            all.add(new Refused("op of no a", INDEX, x -> x.op(0, none, NARROW)));
            all.add(new Refused("op of no b", INDEX, x -> x.op(1, NARROW, none)));
            all.add(new Refused("op(16) of no a", INDEX, x -> x.op(16, none, NARROW)));
            all.add(new Refused("op of no kind", ARGUMENT, x -> x.op(none, NARROW, NARROW)));
            all.add(new Refused("flag of no kind", ARGUMENT, x -> x.flag(none)));
            all.add(new Refused("field of no word", INDEX, x -> x.field(none, 0, 0)));
            all.add(new Refused("field from outside", ARGUMENT, x -> x.field(NARROW, none, 7)));
            all.add(new Refused("field to outside", ARGUMENT, x -> x.field(NARROW, 0, none)));
            all.add(new Refused("join of no a", INDEX, x -> x.join(none, NARROW)));
            all.add(new Refused("join of no b", INDEX, x -> x.join(NARROW, none)));
            all.add(new Refused("extend of no word", INDEX, x -> x.extend(none, 20, true)));
            all.add(new Refused("compare of no a", INDEX, x -> x.compare(none, NARROW, true)));
            all.add(new Refused("compare of no b", INDEX, x -> x.compare(NARROW, none, false)));
            all.add(new Refused("bit of no word", INDEX, x -> x.bit(none, 0) ? 1 : 0));
            all.add(new Refused("bit outside", ARGUMENT, x -> x.bit(NARROW, none) ? 1 : 0));
            all.add(new Refused("limb of no word", INDEX, x -> x.limb(none, 0)));
            all.add(new Refused("limb outside", INDEX, x -> x.limb(NARROW, none)));
            all.add(new Refused("real of no a", INDEX, x -> x.real(0, none, NARROW, 0)));
            all.add(new Refused("real of no b", INDEX, x -> x.real(3, NARROW, none, 2)));
            all.add(new Refused("real of no kind", ARGUMENT, x -> x.real(none, NARROW, NARROW, 0)));
            all.add(new Refused("real in no way", ARGUMENT, x -> x.real(0, NARROW, NARROW, none)));
            all.add(new Refused("count of no word", INDEX, x -> x.count(none)));
            all.add(new Refused("width of no word", INDEX, x -> x.width(none)));
        }
        for (int kind = 0; kind < 16; kind++) {
            int asked = kind;
            all.add(new Refused("op of two widths", ARGUMENT, x -> x.op(asked, WIDE, NARROW)));
        }
        for (int kind = 4; kind < 8; kind++) {
            int asked = kind;
            all.add(new Refused("op by 0", ArithmeticException.class, x -> x.op(asked, NARROW, NOUGHT)));
        }
        all.add(new Refused("op(18) of 13 bits", ARGUMENT, x -> x.op(18, WIDE, WIDE)));
        all.add(new Refused("field the wrong way round", ARGUMENT, x -> x.field(WIDE, 5, 4)));
        all.add(new Refused("extend too narrow", ARGUMENT, x -> x.extend(WIDE, 12, true)));
        all.add(new Refused("extend too wide", ARGUMENT, x -> x.extend(WIDE, 513, true)));
        all.add(new Refused("compare of two widths", ARGUMENT, x -> x.compare(NARROW, WIDE, true)));
        all.add(new Refused("real of two widths", ARGUMENT, x -> x.real(0, NARROW, WIDE, 0)));
        all.add(new Refused("real of 13 bits", ARGUMENT, x -> x.real(0, WIDE, WIDE, 0)));
        return all;
    }

    /** A run of calls answers the same with refused calls between them and without. */
    private static void between(List<Refused> all, int seed) {
        Random chance = new Random(seed);
        WidthWords plain = prepared(seed % 4);
        WidthWords other = prepared(seed % 4);
        int words = 3 + (seed % 4 == 0 ? 0 : 2);
        while (words < 30) {
            Refused refused = all.get(chance.nextInt(all.size()));
            DUE.refused(refused.call, refused.due, () -> refused.asked.applyAsLong(other));
            ToLongFunction<WidthWords> call = fine(chance, words);
            long number = call.applyAsLong(plain);
            DUE.same("an answer after " + refused.call, call.applyAsLong(other), number);
            DUE.same("the number made", number, words);
            words++;
        }
        DUE.same("the state after refused calls", State.of(other), State.of(plain));
    }

    /** A call that makes a word: words 0 and 1 have 8 bits whatever else was made. */
    private static ToLongFunction<WidthWords> fine(Random chance, int words) {
        int kind = chance.nextInt(19);
        int word = chance.nextInt(words);
        int way = chance.nextInt(5);
        switch (chance.nextInt(6)) {
            case 0:
                return x -> x.op(kind >= 4 && kind <= 7 ? 2 : kind, NARROW, NOUGHT);
            case 1:
                return x -> x.op(16 + kind % 2, word, -5);
            case 2:
                return x -> x.field(word, 0, 0);
            case 3:
                return x -> x.extend(word, 512, way > 2);
            case 4:
                return x -> x.real(kind % 4, NARROW, NOUGHT, way);
            default:
                return x -> x.join(NARROW, WIDE);
        }
    }
}
