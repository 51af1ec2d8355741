/** All that can be asked of an object without changing it, as one text. */
final class State {
    private State() {
    }

    static String of(WidthWords words) {
        StringBuilder text = new StringBuilder();
        for (int word = 0; isWord(words, word); word++) {
            text.append(words.width(word)).append(':').append(Numbers.read(words, word).toString(16)).append(' ');
        }
        for (int kind = 0; kind < 4; kind++) {
            text.append(words.flag(kind));
        }
        return text.append(' ').append(words.flags()).toString();
    }

    private static boolean isWord(WidthWords words, int word) {
        try {
            return words.width(word) > 0;
        } catch (ArrayIndexOutOfBoundsException none) {
            return false;
        }
    }
}
