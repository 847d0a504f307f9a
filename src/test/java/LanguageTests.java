import java.io.IOException;
import java.nio.charset.StandardCharsets;
import java.nio.file.Files;
import java.nio.file.Path;
import java.util.List;

/** What can be seen of LANGUAGE.md's rules in the source itself. */
public final class LanguageTests {
    private static final String[] BARRED = {"throw", "try", "catch", "synchronized", "assert", "instanceof", "volatile", "native",
        "System", "Thread", "Random", "Object", "equals", "hashCode", "toString", "package", "import static", "protected", "var",
        "Exception"};

    public static void main(String[] args) throws IOException {
        List<String> lines = Files.readAllLines(Path.of("src/main/java/CodeMaker.java"), StandardCharsets.US_ASCII);
        int begin = -1;
        String name = "";
        for (int i = 0; i < lines.size(); i++) {
            String line = lines.get(i);
            boolean isRemark = line.trim().startsWith("//") || line.trim().startsWith("*") || line.trim().startsWith("/*");
            if (!isRemark) {
                judge(line, i + 1);
            }
            if (line.matches("(    |        )[a-z].*\\) \\{") && !line.contains(" class ")) {
                begin = i;
                name = line.trim();
            } else if (begin >= 0 && (line.equals("    }") || line.equals("        }"))) {
                Checks.due(name + " has up to sixty lines", i - begin + 1 <= 60, true);
                begin = -1;
            }
        }
        Checks.finish("LanguageTests");
    }

    private static void judge(String line, int number) {
        String code = line.replaceAll("\"[^\"]*\"", "\"\"");
        for (String word : BARRED) {
            Checks.due("line " + number + " has " + word, code.matches(".*\\b" + word + "\\b.*"), false);
        }
        Checks.due("line " + number + " has an arrow", code.contains("->") || code.contains("::"), false);
        Checks.due("line " + number + " imports", code.startsWith("import ") && !code.equals("import java.util.Arrays;"), false);
        if (line.matches(" +(private |static |final )*[a-zA-Z\\[\\]]+ [a-zA-Z]+\\(.*\\) \\{")) {
            Checks.due("line " + number + " has up to seven parameters", code.split(",").length <= 7, true);
        }
    }
}
