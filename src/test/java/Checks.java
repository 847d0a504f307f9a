import java.io.IOException;
import java.nio.file.Files;
import java.nio.file.Path;

/** What all tests use: texts are fed, answers are compared, code is told in words. */
final class Checks {
    private static final String[] NAMES = {"PUSH", "LOAD", "STORE", "TAKE", "PUT", "READ", "WRITE", "TWO", "ONE",
        "CHOOSE", "GO", "UNLESS", "COUNT", "NEXT", "BACK", "ENTER", "CALL", "BLOCK", "LEAVE"};
    private static final int[] OPERANDS = {1, 1, 1, 3, 3, 2, 2, 1, 1, 0, 1, 1, 2, 2, 1, 2, 1, 2, 0};
    /** Stands in a text where its fault is; it is not fed. */
    static final char MARK = '\u00b6';

    private static final int MOST_TOLD = 20;
    private static final int MOST_CLIPPED = 400;
    private static int asked = 0;
    private static int wrong = 0;
    private static String document = "";
    private static String sentence = "";
    private static int askedBefore = 0;

    private Checks() {
    }

    static void due(String what, Object got, Object want) {
        asked++;
        if (!got.equals(want)) {
            wrong++;
        }
        if (!got.equals(want) && wrong <= MOST_TOLD) {
            String clipped = what.length() > MOST_CLIPPED ? what.substring(0, MOST_CLIPPED) + " .." : what;
            System.out.println((sentence.isEmpty() ? "" : "'" + sentence + "': ") + clipped + "\n    answered " + got + "\n    due is   " + want);
        }
    }

    /** The words of the document that all answers from here on are asked for, up to the next ones. */
    static void says(String words) {
        endSentence();
        if (document.isEmpty()) {
            document = documentOnOneLine();
        }
        sentence = words;
        due("these words stand in the document", document.contains(words), true);
        askedBefore = asked;
    }

    private static void endSentence() {
        if (!sentence.isEmpty()) {
            due("something is asked for these words", asked > askedBefore, true);
        }
        sentence = "";
    }

    private static String documentOnOneLine() {
        try {
            return Files.readString(Path.of("../shared/DOC.md")).replaceAll("\\s+", " ");
        } catch (IOException e) {
            return "there is no document";
        }
    }

    /** The last thing that a test does. */
    static void finish(String test) {
        endSentence();
        System.out.println(test + ": " + asked + " answers, " + wrong + " of them wrong");
        if (wrong != 0 || asked == 0) {
            System.exit(1);
        }
    }

    private static int four(String text, int at) {
        int v = 0;
        for (int i = at; i < at + 4; i++) {
            v = v << 8 | (i < text.length() ? text.charAt(i) & 255 : 0);
        }
        return v;
    }

    static int feedTwenty(CodeMaker maker, String text, int at) {
        return maker.feed(four(text, at), four(text, at + 4), four(text, at + 8), four(text, at + 12), four(text, at + 16));
    }

    /** The text becomes this one, of up to 8,192 bytes. */
    static void feed(CodeMaker maker, String text) {
        maker.clear();
        int odd = text.length() % 20;
        if (odd != 0) {
            feedTwenty(maker, text, 0);
            maker.end(odd);
        }
        for (int at = odd; at < text.length(); at += 20) {
            feedTwenty(maker, text, at);
        }
    }

    static CodeMaker made(String text) {
        CodeMaker maker = new CodeMaker();
        feed(maker, text);
        due("make of " + text, maker.make(), 0);
        due("fault of " + text, maker.count(0), 0);
        due("place of " + text, maker.count(1), CodeMaker.NONE);
        return maker;
    }

    /** The text has this fault where MARK stands in it. */
    static void faulty(int fault, String marked) {
        int place = marked.indexOf(MARK);
        String text = marked.substring(0, place) + marked.substring(place + 1);
        CodeMaker maker = new CodeMaker();
        feed(maker, text);
        due("make of " + marked, maker.make(), fault);
        due("fault of " + marked, maker.count(0), fault);
        due("place of " + marked, maker.count(1), place);
        due("units of " + marked, maker.count(2), 0);
        due("length in " + marked, maker.length(0), CodeMaker.NONE);
        due("run of " + marked, maker.run(0), CodeMaker.NONE);
    }

    /** The text has this fault at this place; of fault 0 there is no place. */
    static void faultyAt(int fault, int place, String text) {
        if (fault == 0) {
            fine(text);
        } else {
            faulty(fault, text.substring(0, place) + MARK + text.substring(place));
        }
    }

    static void fine(String text) {
        made(text);
    }

    static String program(String variables, String body) {
        return "PROGRAM p VAR " + variables + " END_VAR " + body + " END_PROGRAM";
    }

    static String codeOf(CodeMaker maker, int unit) {
        StringBuilder told = new StringBuilder();
        for (int i = 0; i < maker.length(unit); i++) {
            int number = maker.told(unit, i, 0);
            told.append(i == 0 ? "" : ", ").append(NAMES[number]);
            for (int what = 1; what <= OPERANDS[number]; what++) {
                told.append(' ').append(maker.told(unit, i, what));
            }
            for (int what = OPERANDS[number] + 1; what <= 3; what++) {
                due("operand that is not told", maker.told(unit, i, what), 0);
            }
        }
        return told.toString();
    }

    /** The text's last unit has this code. */
    static void code(String text, String want) {
        CodeMaker maker = made(text);
        due("code of " + text, codeOf(maker, maker.count(2) - 1), want);
    }

    static String repeat(String text, int times) {
        return text.repeat(times);
    }
}
