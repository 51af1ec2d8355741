import java.util.Random;

/**
 * All promises together: runs of 512 calls of every kind, right and wrong ones, each answer held
 * against a model of the whole object. Three objects are used in turn, so that what one is asked
 * must not be seen in another.
 */
public final class RunTest {
    private static final Due DUE = new Due("RunTest");
    private static final int CALLS = 512;
    private static final int RUNS = 300;
    private static final int[] WIDTHS = {1, 2, 7, 8, 8, 8, 9, 16, 16, 31, 32, 32, 33, 63, 64, 65, 127, 128, 256, 448, 449, 511, 512, 513, 0, -1,
        Integer.MIN_VALUE, Integer.MAX_VALUE};
    private static final long[] LIMBS = {0, 1, -1, Long.MIN_VALUE, Long.MAX_VALUE, 0xFFFFFFFFL, 1L << 32, 0x80, 0x8000, 0x80000000L};
    private static final String[] NAMES = {"word", "set", "op", "flag", "field", "join", "extend", "compare", "bit", "limb", "real", "flags",
        "count", "width"};
    /** How often a call of each name is asked, of a hundred or so. */
    private static final int[] OFTEN = {5, 14, 26, 10, 5, 4, 5, 6, 4, 16, 16, 6, 3, 3};

    /** A call by the place of its name; which of the numbers it takes is the name's own. */
    private record Call(int name, int x, int y, int z, int way, long v) {
        long of(WidthWords it) {
            switch (NAMES[name]) {
                case "word":
                    return it.word();
                case "set":
                    return it.set(x, y, v) ? 1 : 0;
                case "op":
                    return it.op(z, x, y);
                case "flag":
                    return it.flag(z);
                case "field":
                    return it.field(x, y, z);
                case "join":
                    return it.join(x, y);
                case "extend":
                    return it.extend(x, z, way % 2 == 0);
                case "compare":
                    return it.compare(x, y, way % 2 == 0);
                case "bit":
                    return it.bit(x, y) ? 1 : 0;
                case "limb":
                    return it.limb(x, y);
                case "real":
                    return it.real(z, x, y, way);
                case "flags":
                    return it.flags();
                case "count":
                    return it.count(x);
                default:
                    return it.width(x);
            }
        }

        long of(Model it) {
            switch (NAMES[name]) {
                case "word":
                    return it.word();
                case "set":
                    return it.set(x, y, v) ? 1 : 0;
                case "op":
                    return it.op(z, x, y);
                case "flag":
                    return it.flag(z);
                case "field":
                    return it.field(x, y, z);
                case "join":
                    return it.join(x, y);
                case "extend":
                    return it.extend(x, z, way % 2 == 0);
                case "compare":
                    return it.compare(x, y, way % 2 == 0);
                case "bit":
                    return it.bit(x, y) ? 1 : 0;
                case "limb":
                    return it.limb(x, y);
                case "real":
                    return it.real(z, x, y, way);
                case "flags":
                    return it.flags();
                case "count":
                    return it.count(x);
                default:
                    return it.width(x);
            }
        }
    }

    public static void main(String[] args) {
        Random chance = new Random(9);
        for (int run = 0; run < RUNS; run++) {
            inTurn(run, chance);
        }
        DUE.end();
    }

    private static void inTurn(int run, Random chance) {
        WidthWords[] objects = new WidthWords[3];
        Model[] models = new Model[3];
        for (int k = 0; k < 3; k++) {
            int bits = chance.nextInt(4) == 0 ? chance.nextInt() : WIDTHS[chance.nextInt(WIDTHS.length)];
            objects[k] = new WidthWords(bits);
            models[k] = new Model(bits);
        }
        int[] asked = new int[3];
        while (asked[0] < CALLS || asked[1] < CALLS || asked[2] < CALLS) {
            int k = chance.nextInt(3);
            if (asked[k] < CALLS) {
                ask("run " + run + ", object " + k + ", call " + asked[k], objects[k], models[k], next(models[k], chance));
                asked[k]++;
            }
        }
    }

    private static void ask(String place, WidthWords object, Model model, Call call) {
        String text = place + ": " + NAMES[call.name] + " of " + call;
        long due;
        try {
            due = call.of(model);
        } catch (RuntimeException thrown) {
            DUE.refused(text, thrown.getClass(), () -> call.of(object));
            return;
        }
        try {
            DUE.same(text, call.of(object), due);
        } catch (RuntimeException thrown) {
            DUE.same(text, thrown, (Object) due);
        }
    }

    private static Call next(Model model, Random chance) {
        int name = model.size() < 3 ? chance.nextInt(2) : byWeight(chance);
        int x = someWord(model, chance);
        int width = x >= 0 && x < model.size() ? model.width(x) : 1;
        long v = chance.nextInt(3) == 0 ? LIMBS[chance.nextInt(LIMBS.length)] : chance.nextLong() >>> chance.nextInt(64);
        switch (NAMES[name]) {
            case "set":
            case "limb":
                return new Call(name, x, nearly(Numbers.limbs(width), chance), 0, 0, v);
            case "bit":
                return new Call(name, x, nearly(width, chance), 0, 0, 0);
            case "field":
                int from = nearly(width, chance);
                return new Call(name, x, from, chance.nextInt(8) == 0 ? nearly(width, chance) : from + nearly(width - from, chance), 0, 0);
            case "extend":
                return new Call(name, x, 0, chance.nextBoolean() ? WIDTHS[chance.nextInt(24)] : width - 1 + nearly(600 - width, chance), chance.nextInt(2), 0);
            case "flag":
                return new Call(name, 0, 0, nearly(4, chance), 0, 0);
            case "real":
                return new Call(name, x, alike(model, x, width, chance), nearly(4, chance), nearly(5, chance), 0);
            default:
                return new Call(name, x, alike(model, x, width, chance), nearly(19, chance), chance.nextInt(2), 0);
        }
    }

    private static int byWeight(Random chance) {
        int all = 0;
        for (int often : OFTEN) {
            all += often;
        }
        int left = chance.nextInt(all);
        int name = 0;
        while (left >= OFTEN[name]) {
            left -= OFTEN[name];
            name++;
        }
        return name;
    }

    private static int someWord(Model model, Random chance) {
        return nearly(model.size(), chance);
    }

    /** A number from 0 on below the end told; now and then one outside. */
    private static int nearly(int end, Random chance) {
        if (end <= 0 || chance.nextInt(40) == 0) {
            int[] outside = {-1, end, end + 1, Integer.MIN_VALUE, Integer.MAX_VALUE, end + 64};
            return outside[chance.nextInt(outside.length)];
        }
        return chance.nextInt(end);
    }

    /** Mostly a word of the same width, if a few tries find one. */
    private static int alike(Model model, int x, int width, Random chance) {
        for (int tries = 0; tries < 12; tries++) {
            int y = someWord(model, chance);
            if (chance.nextInt(30) == 0 || y >= 0 && y < model.size() && model.width(y) == width) {
                return y;
            }
        }
        return x;
    }
}
