import java.io.IOException;
import java.nio.file.Files;
import java.nio.file.Path;
import java.util.HashSet;
import java.util.List;
import java.util.Set;
import java.util.stream.Stream;

/** README.md: its example answers what it says, and its table names every test. */
public final class ReadmeTest {
    private static final Due DUE = new Due("ReadmeTest");
    private static final Path TESTS = Path.of("src/test/java");

    public static void main(String[] args) throws IOException {
        List<String> readme = Files.readAllLines(Path.of("README.md"));
        example();
        exampleIsTheOneHere(readme);
        testsAreNamed(readme);
        DUE.same("how the tests are run", readme.contains("    .ci/run"), true);
        DUE.end();
    }

    private static void example() {
        WidthWords words = new WidthWords(128);
        int a = words.word();
        int b = words.word();
        words.set(a, 0, -1L);
        words.set(b, 0, 10L);
        int product = words.op(2, a, b);
        long upper = words.limb(product, 1);
        int carry = words.flag(0);
        DUE.same("the words' numbers", "" + a + b + product, "012");
        DUE.same("upper", upper, 9);
        DUE.same("carry", carry, 0);

        WidthWords halves = new WidthWords(16);
        int one = halves.word();
        int three = halves.word();
        halves.set(one, 0, 0x3C00);
        halves.set(three, 0, 0x4200);
        int third = halves.real(3, one, three, 0);
        long bits = halves.limb(third, 0);
        int notExact = halves.flags();
        DUE.same("bits", bits, 0x3555);
        DUE.same("notExact", notExact, 16);
    }

    private static void exampleIsTheOneHere(List<String> readme) throws IOException {
        Set<String> here = new HashSet<>();
        for (String line : Files.readAllLines(TESTS.resolve("ReadmeTest.java"))) {
            here.add(line.strip());
        }
        int begin = readme.indexOf("```java");
        DUE.same("README.md has an example", begin >= 0, true);
        for (int k = begin + 1; k < readme.size() && !readme.get(k).equals("```"); k++) {
            String code = readme.get(k).replaceAll("//.*", "").strip();
            DUE.same("the example's line is tried: " + code, here.contains(code), true);
        }
    }

    private static void testsAreNamed(List<String> readme) throws IOException {
        try (Stream<Path> files = Files.list(TESTS)) {
            for (Path file : files.sorted().toList()) {
                String name = file.getFileName().toString().replace(".java", "");
                if (name.endsWith("Test")) {
                    boolean named = readme.stream().anyMatch(line -> line.startsWith("| " + name + " |"));
                    DUE.same("the table names " + name, named, true);
                }
            }
        }
    }
}
