import java.nio.charset.StandardCharsets;

/** The example of README.md: a lamp goes out two seconds behind its key. */
final class Example {
    private static final String TEXT = """
        PROGRAM lamp
        VAR key AT %IX0 : BOOL; light AT %QX0 : BOOL; late : TOF; END_VAR
            late(IN := key, PT := T#2s);
            light := late.Q;
        END_PROGRAM
        """;
    private static final int KEY = 0, LIGHT = 256;

    private Example() {
    }

    public static void main(String[] args) {
        CodeMaker maker = new CodeMaker();
        feed(maker, TEXT);
        if (maker.make() != 0) {
            System.out.println("fault " + maker.count(0) + " at byte " + maker.count(1));
            return;
        }
        int unit = maker.count(2) - 1;
        for (int i = 0; i < maker.length(unit); i++) {
            System.out.println(maker.told(unit, i, 0) + " " + maker.told(unit, i, 1) + " " + maker.told(unit, i, 2));
        }
        maker.set(KEY, 1);
        System.out.println(maker.run(0) + " steps, light " + maker.get(LIGHT));
        maker.set(KEY, 0);
        System.out.println(maker.run(1000) + " steps, light " + maker.get(LIGHT));
        System.out.println(maker.run(2000) + " steps, light " + maker.get(LIGHT));
    }

    /** The odd bytes come first: a text of nearly 8,192 bytes has no room for twenty more at its end. */
    private static void feed(CodeMaker maker, String text) {
        byte[] bytes = text.getBytes(StandardCharsets.ISO_8859_1);
        int odd = bytes.length % 20;
        maker.clear();
        if (odd != 0) {
            feedTwenty(maker, bytes, 0);
            maker.end(odd);
        }
        for (int at = odd; at < bytes.length; at += 20) {
            feedTwenty(maker, bytes, at);
        }
    }

    private static void feedTwenty(CodeMaker maker, byte[] bytes, int at) {
        int[] fours = new int[5];
        for (int i = 0; i < 20; i++) {
            int b = at + i < bytes.length ? bytes[at + i] & 255 : 0;
            fours[i / 4] = fours[i / 4] << 8 | b;
        }
        maker.feed(fours[0], fours[1], fours[2], fours[3], fours[4]);
    }
}
