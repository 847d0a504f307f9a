import java.io.IOException;
import java.nio.charset.StandardCharsets;
import java.nio.file.Files;
import java.nio.file.Path;

/**
 * The texts of src/test/data/texts.txt, with answers that a second program for
 * the document, by the same author, gave for them: it finds slips, not a
 * misreading of the document. Rows: T text; F fault place;
 * M units instructions cells bound and a sum of the code; C a sum of all cells;
 * S cell v and what it was; R ticks answer steps NOW and a sum of all cells.
 */
public final class TextsOfDataTests {
    private static CodeMaker maker = new CodeMaker();
    private static String text = "";

    public static void main(String[] args) throws IOException {
        int rows = 0;
        for (String row : Files.readAllLines(Path.of("src/test/data/texts.txt"), StandardCharsets.US_ASCII)) {
            ask(row.charAt(0), row.substring(2));
            rows++;
        }
        Checks.due("there are rows", rows > 1000, true);
        Checks.finish("TextsOfDataTests");
    }

    private static void ask(char kind, String rest) {
        if (kind == 'T') {
            text = plain(rest);
            // some texts by new objects, the others by the same one
            maker = text.length() % 3 == 0 ? new CodeMaker() : maker;
            Checks.feed(maker, text);
            return;
        }
        String[] words = rest.split(" ");
        int[] told = new int[words.length];
        for (int i = 0; i < told.length; i++) {
            told[i] = Integer.parseInt(words[i]);
        }
        switch (kind) {
            case 'F':
                Checks.due("make of " + text, maker.make(), told[0]);
                Checks.due("place of " + text, maker.count(1), told[1]);
                break;
            case 'M':
                Checks.due("make of " + text, maker.make(), 0);
                Checks.due("units of " + text, maker.count(2), told[0]);
                Checks.due("instructions of " + text, maker.count(3), told[1]);
                Checks.due("cells of " + text, maker.count(4), told[2]);
                Checks.due("bound of " + text, maker.count(7), told[3]);
                Checks.due("code of " + text, sumOfCode(), told[4]);
                break;
            case 'C':
                Checks.due("cells of " + text, sumOfCells(), told[0]);
                break;
            case 'S':
                Checks.due("set in " + text, maker.set(told[0], told[1]), told[2]);
                break;
            default:
                Checks.due("run of " + text, maker.run(told[0]), told[1]);
                Checks.due("steps of " + text, maker.count(5), told[2]);
                Checks.due("NOW of " + text, maker.count(6), told[3]);
                Checks.due("cells behind a run of " + text, sumOfCells(), told[4]);
                break;
        }
    }

    private static int sumOfCode() {
        int sum = 7;
        for (int unit = 0; unit < maker.count(2); unit++) {
            for (int i = 0; i < maker.length(unit); i++) {
                for (int what = 0; what < 4; what++) {
                    sum = sum * 31 + maker.told(unit, i, what);
                }
            }
        }
        return sum;
    }

    private static int sumOfCells() {
        int sum = 7;
        for (int cell = 0; cell < maker.count(4); cell++) {
            sum = sum * 31 + maker.get(cell);
        }
        return sum;
    }

    private static String plain(String escaped) {
        StringBuilder out = new StringBuilder();
        for (int i = 0; i < escaped.length(); i++) {
            char c = escaped.charAt(i);
            if (c == '\\' && escaped.charAt(i + 1) == 'n') {
                out.append('\n');
                i++;
            } else if (c == '\\') {
                out.append((char) Integer.parseInt(escaped.substring(i + 2, i + 4), 16));
                i += 3;
            } else {
                out.append(c);
            }
        }
        return out.toString();
    }
}
