/** Promises 1 to 4: a new object, clear, feed, end. */
public final class TextTests {
    private static final String TEXT = "PROGRAM p VAR x : INT := 7; END_VAR x := x + 1; END_PROGRAM";

    public static void main(String[] args) {
        newObject();
        clearing();
        feeding();
        ending();
        byteOrder();
        Checks.finish("TextTests");
    }

    private static void nothingAtHand(String when, CodeMaker x) {
        for (int which = 2; which <= 7; which++) {
            Checks.due(when + " count(" + which + ")", x.count(which), 0);
        }
        Checks.due(when + " length(0)", x.length(0), CodeMaker.NONE);
        Checks.due(when + " told(0, 0, 0)", x.told(0, 0, 0), 0);
        Checks.due(when + " set(0, 1)", x.set(0, 1), 0);
        Checks.due(when + " get(0)", x.get(0), 0);
        Checks.due(when + " run(0)", x.run(0), CodeMaker.NONE);
    }

    private static void newObject() {
        CodeMaker x = new CodeMaker();
        Checks.due("new count(0)", x.count(0), 0);
        Checks.due("new count(1)", x.count(1), CodeMaker.NONE);
        nothingAtHand("new", x);
        Checks.due("new clear", x.clear(), 0);
        Checks.due("make without a text", x.make(), 10);
        Checks.due("its place", x.count(1), 0);
        nothingAtHand("without a text", x);
    }

    private static void clearing() {
        CodeMaker x = Checks.made(TEXT);
        Checks.due("clear tells the bytes", x.clear(), TEXT.length());
        Checks.due("clear again", x.clear(), 0);
        Checks.due("what was made stays", x.count(3), 4);
        Checks.due("it can be run", x.run(5), 4);
        Checks.due("its cell", x.get(960), 8);
        Checks.due("the text is gone", x.make(), 10);
        nothingAtHand("after a fault", x);
        Checks.due("set changes nothing", x.get(960), 0);
    }

    private static void feeding() {
        CodeMaker x = new CodeMaker();
        for (int i = 1; i <= 409; i++) {
            Checks.due("feed " + i, x.feed(0x20202020, 0x20202020, 0x20202020, 0x20202020, 0x20202020), 20 * i);
        }
        Checks.due("feed beyond 8,192", x.feed(1, 2, 3, 4, 5), CodeMaker.NONE);
        Checks.due("nothing changed", x.make(), 10);
        Checks.due("room by end", x.end(12), 8172);
        Checks.due("exactly 8,192", x.feed(0x20202020, 0x20202020, 0x20202020, 0x20202020, 0x20202020), 8192);
        Checks.due("full", x.feed(0, 0, 0, 0, 0), CodeMaker.NONE);
        Checks.due("still blanks alone", x.make(), 10);
        Checks.due("one less than full", x.end(19), 8191);
        Checks.due("full by one", x.feed(0, 0, 0, 0, 0), CodeMaker.NONE);
        Checks.due("clear", x.clear(), 8191);
    }

    private static void ending() {
        CodeMaker x = new CodeMaker();
        Checks.due("end without a text", x.end(0), CodeMaker.NONE);
        x.feed(0, 0, 0, 0, 0);
        Checks.due("end(-1)", x.end(-1), CodeMaker.NONE);
        Checks.due("end(21)", x.end(21), CodeMaker.NONE);
        Checks.due("end(least)", x.end(Integer.MIN_VALUE), CodeMaker.NONE);
        Checks.due("end(20)", x.end(20), 20);
        Checks.due("end(19)", x.end(19), 19);
        Checks.due("fewer than twenty", x.end(0), CodeMaker.NONE);
        Checks.due("feed behind", x.feed(0, 0, 0, 0, 0), 39);
        Checks.due("of two feeds", x.end(0), 19);
        x.feed(0, 0, 0, 0, 0);
        Checks.due("end(1)", x.end(1), 20);
        Checks.due("by whichever calls", x.end(3), 3);
        CodeMaker y = new CodeMaker();
        Checks.feedTwenty(y, "PROGRAM p END_PROGRA", 0);
        Checks.feedTwenty(y, "Mxxxxxxxxxxxxxxxxxxx", 0);
        Checks.due("end(1) cuts the x's", y.end(1), 21);
        Checks.due("make", y.make(), 0);
        Checks.due("the text stays", y.clear(), 21);
    }

    private static void byteOrder() {
        CodeMaker x = new CodeMaker();
        x.feed(0x50524F47, 0x52414D20, 0x70FF2020, 0x20202020, 0x20202020);
        Checks.due("a byte above 127", x.make(), 1);
        Checks.due("its place", x.count(1), 9);
        x.clear();
        x.feed(0x80000000, 0, 0, 0, 0);
        Checks.due("the highest byte first", x.make(), 1);
        Checks.due("place 0", x.count(1), 0);
    }
}
