import java.util.function.LongSupplier;
import java.util.function.ToLongFunction;

/** Compares answers with those that are due, and tells the ones that are not. */
final class Due {
    private static final int MOST_TOLD = 20;
    private final String test;
    private long checked = 0;
    private long wrong = 0;
    private String sentence = "";

    Due(String test) {
        this.test = test;
    }

    /** The document's words that the checks from here on are for. */
    void about(String words) {
        sentence = words;
    }

    void same(String call, Object got, Object want) {
        checked++;
        if (!want.equals(got)) {
            tell(call + " answered " + got + ", due is " + want);
        }
    }

    void same(String call, long got, long want) {
        checked++;
        if (got != want) {
            tell(call + " answered " + got + ", due is " + want);
        }
    }

    void same(String call, boolean got, boolean want) {
        same(call, got ? 1L : 0L, want ? 1L : 0L);
    }

    /** The call throws an exception of just that class, by a throw statement of the program. */
    void refused(String call, Class<? extends RuntimeException> want, LongSupplier asked) {
        checked++;
        try {
            tell(call + " answered " + asked.getAsLong() + ", due is " + want.getSimpleName());
        } catch (RuntimeException thrown) {
            if (thrown.getClass() != want || isTheMachines(thrown.getMessage())) {
                tell(call + " threw " + thrown + ", due is the program's " + want.getSimpleName());
            }
        }
    }

    /** The machine has its own texts, or none when it has thrown often; the program's are others. */
    private static boolean isTheMachines(String text) {
        return text == null || text.startsWith("Index ") || text.startsWith("arraycopy: ") || text.equals("/ by zero");
    }

    /** Likewise, and nothing that can be asked of the object is another one after it. */
    void unchanged(String call, WidthWords words, Class<? extends RuntimeException> want, ToLongFunction<WidthWords> asked) {
        String before = State.of(words);
        refused(call, want, () -> asked.applyAsLong(words));
        same(call + ": the state", State.of(words), before);
    }

    void end() {
        System.out.println(test + ": " + checked + " checked, " + wrong + " not as due");
        if (wrong != 0 || checked == 0) {
            System.exit(1);
        }
    }

    private void tell(String text) {
        wrong++;
        if (wrong <= MOST_TOLD) {
            System.out.println(test + ": " + text + (sentence.isEmpty() ? "" : " [" + sentence + "]"));
        }
    }
}
