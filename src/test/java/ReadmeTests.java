import java.io.ByteArrayOutputStream;
import java.io.IOException;
import java.io.PrintStream;
import java.nio.file.Files;
import java.nio.file.Path;
import java.util.ArrayList;
import java.util.List;
import java.util.stream.Collectors;
import java.util.stream.Stream;

/** README.md: its example is that of Example.java, and does what stands there; each test and call is named. */
public final class ReadmeTests {
    private static final Path TESTS = Path.of("src/test/java");

    public static void main(String[] args) throws IOException {
        String readme = Files.readString(Path.of("README.md"));
        example(readme);
        names(readme);
        Checks.finish("ReadmeTests");
    }

    private static void example(String readme) throws IOException {
        String example = withoutIndent(Files.readString(TESTS.resolve("Example.java")));
        List<String> texts = fenced(readme, "text");
        List<String> codes = fenced(readme, "java");
        Checks.due("the text and what is printed stand in README.md", texts.size(), 2);
        Checks.due("one example stands in README.md", codes.size(), 1);
        Checks.due("Example.java has README.md's text", example.contains(withoutIndent(texts.get(0))), true);
        Checks.due("Example.java has README.md's code", example.contains(withoutIndent(codes.get(0))), true);
        Checks.due("what Example prints", printed(), texts.get(1));
    }

    /** What stands in README.md between fences of this kind. */
    private static List<String> fenced(String readme, String kind) {
        List<String> found = new ArrayList<>();
        String fence = "```" + kind + "\n";
        for (int at = readme.indexOf(fence); at >= 0; at = readme.indexOf(fence, at + 1)) {
            int from = at + fence.length();
            found.add(readme.substring(from, readme.indexOf("```", from)));
        }
        return found;
    }

    private static String withoutIndent(String text) {
        return text.lines().map(String::strip).collect(Collectors.joining("\n"));
    }

    private static String printed() {
        PrintStream before = System.out;
        ByteArrayOutputStream bytes = new ByteArrayOutputStream();
        System.setOut(new PrintStream(bytes, true));
        Example.main(new String[0]);
        System.setOut(before);
        return bytes.toString().replace(System.lineSeparator(), "\n");
    }

    private static void names(String readme) throws IOException {
        try (Stream<Path> files = Files.list(TESTS)) {
            for (Path file : files.sorted().toList()) {
                String name = file.getFileName().toString().replace(".java", "");
                if (name.endsWith("Tests")) {
                    Checks.due(name + " is named in README.md", readme.contains("`" + name + "`"), true);
                }
            }
        }
        for (String call : "clear feed end make count length told set get run".split(" ")) {
            Checks.due(call + " is told in README.md", readme.contains("`" + call + "("), true);
        }
        for (String answer : "NONE ZERO INDEX LONG .ci/run ../shared/tests".split(" ")) {
            Checks.due(answer + " is told in README.md", readme.contains("`" + answer + "`"), true);
        }
    }
}
