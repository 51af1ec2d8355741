import java.io.IOException;
import java.nio.file.Files;
import java.nio.file.Path;
import java.util.Set;
import java.util.regex.Matcher;
import java.util.regex.Pattern;

/** Those rules of LANGUAGE.md that can be seen from the program's words alone. */
public final class LanguageTest {
    private static final Due DUE = new Due("LanguageTest");
    private static final Set<String> THROWN = Set.of("ArrayIndexOutOfBoundsException", "IllegalArgumentException",
        "ArithmeticException", "UnsupportedOperationException");
    private static final Set<String> CALLED = Set.of("Math.min", "Math.max", "Math.floorMod", "Long.bitCount",
        "System.arraycopy");

    public static void main(String[] args) throws IOException {
        String text = Files.readString(Path.of("src/main/java/WidthWords.java"));
        String code = text.replaceAll("(?s)/\\*.*?\\*/", "").replaceAll("//[^\n]*", "").replaceAll("\"[^\"\n]*\"", "\"\"");
        for (String word : new String[] {"import", "package", "try", "catch", "finally", "synchronized", "assert", "double", "float", "native"}) {
            DUE.same("the word " + word, Pattern.compile("\\b" + word + "\\b").matcher(code).find(), false);
        }
        for (String sign : new String[] {"->", "::", "Exact(", "static {"}) {
            DUE.same("the sign " + sign, code.contains(sign), false);
        }
        only("throw new (\\w+)", code, THROWN);
        only("\\b((?:Math|Long|Integer|System|String|Arrays)\\.\\w+)", code, CALLED);
        // Rows are made with the object alone: each new one stands in a field's declaration.
        for (String line : code.split("\n")) {
            if (line.contains("new ") && !line.contains("throw new ")) {
                DUE.same("made outside a field: " + line.trim(), line.contains("final"), true);
            }
        }
        shapes(code);
        DUE.end();
    }

    /** Rule 11: short methods of few parameters, few classes. */
    private static void shapes(String code) {
        int classes = 0;
        int begun = -1;
        String[] lines = code.split("\n");
        for (int k = 0; k < lines.length; k++) {
            String line = lines[k];
            String indent = line.substring(0, line.length() - line.stripLeading().length());
            boolean opens = line.endsWith("{");
            classes += opens && line.contains(" class ") ? 1 : 0;
            if (opens && line.contains("(") && (indent.length() == 4 || indent.length() == 8 && begun < 0)) {
                begun = k;
                String parameters = line.substring(line.indexOf('(') + 1, line.indexOf(')'));
                DUE.same("at most seven parameters: " + line.strip(), parameters.split(",").length <= 7, true);
            }
            if (begun >= 0 && line.strip().equals("}") && lines[begun].startsWith(indent) && lines[begun].charAt(indent.length()) != ' ') {
                DUE.same("some sixty lines at most: " + lines[begun].strip(), k - begun <= 60, true);
                begun = -1;
            }
        }
        DUE.same("some twelve classes at most", classes <= 12, true);
    }

    private static void only(String pattern, String code, Set<String> allowed) {
        Matcher matcher = Pattern.compile(pattern).matcher(code);
        while (matcher.find()) {
            DUE.same(matcher.group(1) + " is one of " + allowed, allowed.contains(matcher.group(1)), true);
        }
    }
}
