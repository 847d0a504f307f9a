/** Each sentence of 'Promise 1' to 'Promise 11' that names an edge or a refused call, with a test of its own. */
public final class PromiseEdgeTests {
    private static final int LEAST = Integer.MIN_VALUE;
    private static final int MOST = Integer.MAX_VALUE;
    private static final int BLANKS = 0x20202020;
    private static final String TEXT = "PROGRAM p VAR x : INT := 7; END_VAR x := x + 1; END_PROGRAM";

    public static void main(String[] args) {
        lastPromisedCall();
        newObject();
        clearing();
        feedingOrder();
        feedingTooMuch();
        endingInRange();
        endingByAnyCalls();
        endingForGood();
        endingRefused();
        makingTwice();
        makingFault();
        countOfFaults();
        countAtHand();
        countOfSteps();
        countRefused();
        lengths();
        tellingOperands();
        tellingNone();
        setting();
        getting();
        runTicks();
        runFaults();
        runLong();
        runRefused();
        Checks.finish("PromiseEdgeTests");
    }

    private static void nothingAtHand(CodeMaker x) {
        for (int which = 2; which <= 7; which++) {
            Checks.due("count(" + which + ") of nothing", x.count(which), 0);
        }
        Checks.due("length(0) of nothing", x.length(0), CodeMaker.NONE);
        for (int what = 0; what < 4; what++) {
            Checks.due("told(0, 0, " + what + ") of nothing", x.told(0, 0, what), 0);
        }
        Checks.due("set(960, 9) of nothing", x.set(960, 9), 0);
        Checks.due("get(960) of nothing", x.get(960), 0);
        Checks.due("run(0) of nothing", x.run(0), CodeMaker.NONE);
    }

    private static void lastPromisedCall() {
        Checks.says("An object is used for at most 512 calls after it has been made; what later calls answer is free.");
        CodeMaker x = new CodeMaker();
        for (int i = 1; i <= 409; i++) {
            Checks.due("call " + i, Checks.feedTwenty(x, i == 1 ? "PROGRAM p VAR x:INT;" : i == 409 ? "END_VAR x:=x+1;END_P" : " ".repeat(20), 0), 20 * i);
        }
        Checks.due("call 410", x.end(12), 8172);
        Checks.due("call 411", x.feed(BLANKS, BLANKS, BLANKS, BLANKS, BLANKS), 8192);
        Checks.due("call 412", x.end(0), 8172);
        Checks.due("call 413", Checks.feedTwenty(x, " END_PROGRAM        ", 0), 8192);
        Checks.due("call 414, where ; is missing", x.make(), 6);
        Checks.due("call 415", x.clear(), 8192);
        for (int i = 416; i < 419; i++) {
            Checks.feedTwenty(x, TEXT + " ", 20 * (i - 416));
        }
        Checks.due("call 419", x.make(), 0);
        for (int i = 420; i <= 511; i++) {
            Checks.due("call " + i, x.run(100000), 4);
        }
        Checks.due("call 512", x.get(960), 7 + 92);
    }

    private static void newObject() {
        Checks.says("No text, nothing made.");
        CodeMaker x = new CodeMaker();
        Checks.due("count(0)", x.count(0), 0);
        Checks.due("count(1)", x.count(1), CodeMaker.NONE);
        nothingAtHand(x);
        Checks.due("no last twenty bytes", x.end(20), CodeMaker.NONE);
        Checks.due("clear()", x.clear(), 0);
        CodeMaker y = new CodeMaker();
        Checks.due("one object has nothing of another", y.feed(0, 0, 0, 0, 0), 20);
        Checks.due("the other one", x.clear(), 0);
    }

    private static void clearing() {
        Checks.says("No text; what was made stays: how many bytes it had.");
        CodeMaker x = Checks.made(TEXT);
        Checks.due("clear()", x.clear(), TEXT.length());
        Checks.due("clear() of no text", x.clear(), 0);
        Checks.due("units stay", x.count(2), 1);
        Checks.due("a run", x.run(1), 4);
        Checks.due("its cell", x.get(960), 8);
        Checks.due("end(0) of no text", x.end(0), CodeMaker.NONE);
        Checks.due("feed begins anew", x.feed(0, 0, 0, 0, 0), 20);
        Checks.due("what was made stays by feed, too", x.run(1), 4);
        Checks.due("clear() of a bad text", x.clear(), 20);
        Checks.due("no fault yet", x.count(0), 0);
        Checks.due("make() of no text", x.make(), 10);
        Checks.due("clear()", x.clear(), 0);
        Checks.due("the fault stays", x.count(0), 10);
    }

    private static void feedingOrder() {
        Checks.says("Twenty bytes come behind the text, the highest of each number first: how many it has.");
        for (int at = 0; at < 20; at++) {
            int[] numbers = {BLANKS, BLANKS, BLANKS, BLANKS, BLANKS};
            numbers[at / 4] = BLANKS & ~(255 << 24 - 8 * (at % 4)) | 255 << 24 - 8 * (at % 4);
            CodeMaker x = new CodeMaker();
            Checks.due("blanks first", x.feed(BLANKS, BLANKS, BLANKS, BLANKS, BLANKS), 20);
            Checks.due("feed", x.feed(numbers[0], numbers[1], numbers[2], numbers[3], numbers[4]), 40);
            Checks.due("byte 255 among blanks", x.make(), 1);
            Checks.due("its place", x.count(1), 20 + at);
        }
    }

    /** A text of so many blanks, of 8,160 up to 8,192. */
    private static CodeMaker blanks(int bytes) {
        CodeMaker x = new CodeMaker();
        for (int i = 0; i < 409; i++) {
            x.feed(BLANKS, BLANKS, BLANKS, BLANKS, BLANKS);
        }
        x.end(bytes > 8180 ? bytes - 8180 : bytes - 8160);
        if (bytes > 8180) {
            x.feed(BLANKS, BLANKS, BLANKS, BLANKS, BLANKS);
        }
        return x;
    }

    private static void feedingTooMuch() {
        Checks.says("NONE, changing nothing: there would be more than 8,192.");
        CodeMaker fits = blanks(8172);
        Checks.due("8,192 are not too many", fits.feed(BLANKS, BLANKS, BLANKS, BLANKS, 0x202020FF), 8192);
        Checks.due("the last byte is one of the text", fits.make(), 1);
        Checks.due("its place", fits.count(1), 8191);
        for (int bytes = 8173; bytes <= 8192; bytes++) {
            CodeMaker x = blanks(bytes);
            Checks.due("feed behind " + bytes, x.feed(-1, -1, -1, -1, -1), CodeMaker.NONE);
            Checks.due("still blanks", x.make(), 10);
            Checks.due("still as many", x.clear(), bytes);
            Checks.due("room again", x.feed(-1, -1, -1, -1, -1), 20);
        }
    }

    private static void endingInRange() {
        Checks.says("the first n (0 .. 20) stay: how many bytes the text has.");
        CodeMaker x = new CodeMaker();
        for (int n = 0; n <= 20; n++) {
            for (int at = 0; at < 20; at++) {
                Checks.feed(x, " ".repeat(20 + at) + "#" + " ".repeat(19 - at));
                Checks.due("end(" + n + ")", x.end(n), 20 + n);
                Checks.due("whether byte " + at + " of the twenty stays", x.make(), at < n ? 1 : 10);
                Checks.due("how many there are", x.clear(), 20 + n);
            }
        }
    }

    private static void endingByAnyCalls() {
        Checks.says("Of the last twenty bytes of the text, by whichever calls they came,");
        CodeMaker x = new CodeMaker();
        Checks.feedTwenty(x, " ".repeat(20), 0);
        Checks.due("end(7)", x.end(7), 7);
        Checks.due("feed", Checks.feedTwenty(x, "  ##                ", 0), 27);
        Checks.due("of bytes 7 to 26 three stay", x.end(3), 10);
        Checks.due("# at 9 stays", x.make(), 1);
        Checks.due("its place", x.count(1), 9);
        Checks.due("feed", x.feed(BLANKS, BLANKS, BLANKS, BLANKS, BLANKS), 30);
        Checks.due("of bytes 10 to 29 none stays", x.end(0), 10);
        Checks.due("feed", x.feed(BLANKS, BLANKS, BLANKS, BLANKS, BLANKS), 30);
        Checks.due("end(19)", x.end(19), 29);
        Checks.due("of bytes 9 to 28 none stays, # at 9 is gone", x.end(0), 9);
        Checks.due("blanks alone", x.make(), 10);
    }

    private static void endingForGood() {
        Checks.says("the first n (0 .. 20) stay");
        // what was cut off is gone, though it would have been a part of the last token
        String text = "(* *)PROGRAM p VAR x:INT;a AT %QW12:INT:=-16#1F;b:BOOL;END_VAR IF b THEN x:=T#12ms;b:=x<=1;END_IF;CASE x OF 1..22:END_CASE;END_PROGRAM(* *)";
        CodeMaker x = new CodeMaker();
        for (int bytes = 0; bytes <= text.length(); bytes++) {
            CodeMaker fresh = new CodeMaker();
            Checks.feed(fresh, text.substring(0, bytes));
            x = bytes % 10 == 0 ? new CodeMaker() : x;
            Checks.feed(x, " ".repeat(20) + text + " ".repeat(20));
            for (int left = 20 + text.length() + 20; left > 20 + bytes; left -= 20 - Math.max(0, 20 - (left - 20 - bytes))) {
                x.end(Math.max(0, 20 - (left - 20 - bytes)));
            }
            int fault = fresh.make();
            Checks.due("make of " + bytes + " bytes", x.make(), fault);
            Checks.due("its place", x.count(1), fault == 0 ? CodeMaker.NONE : fault == 10 ? 0 : fresh.count(1) + 20);
            Checks.due("bytes", x.clear(), 20 + bytes);
        }
    }

    private static void endingRefused() {
        Checks.says("NONE: another n, or fewer than twenty bytes are there.");
        CodeMaker x = new CodeMaker();
        Checks.due("end(0) of nothing", x.end(0), CodeMaker.NONE);
        Checks.due("feed", x.feed(0, 0, 0, 0, 0), 20);
        for (int n : new int[] {-1, 21, 22, -20, 256, 276, LEAST, LEAST + 20, MOST}) {
            Checks.due("end(" + n + ")", x.end(n), CodeMaker.NONE);
        }
        Checks.due("twenty bytes are there", x.end(20), 20);
        Checks.due("nothing changed", x.end(19), 19);
        for (int n = 0; n <= 20; n++) {
            Checks.due("end(" + n + ") of nineteen bytes", x.end(n), CodeMaker.NONE);
        }
        Checks.due("nineteen stay", x.clear(), 19);
    }

    private static void makingTwice() {
        Checks.says("Code is made of the text, which stays: 0, and it is at hand then;");
        CodeMaker x = Checks.made(TEXT);
        Checks.due("a run", x.run(5), 4);
        Checks.due("make() again", x.make(), 0);
        Checks.due("the cell anew", x.get(960), 7);
        Checks.due("a run", x.run(5), 4);
        Checks.due("the text stays", x.clear(), TEXT.length());
        // places that were used before are free again
        CodeMaker y = Checks.made("PROGRAM p VAR a AT %IX0:BOOL;b AT %IX255:BOOL;c AT %QX0:BOOL;d AT %MX255:BOOL;e AT %IW0:INT;f AT %MW63:INT;END_VAR END_PROGRAM");
        Checks.due("make() again", y.make(), 0);
        Checks.due("and again", y.make(), 0);
    }

    private static void makingFault() {
        Checks.says("or the first fault; nothing is at hand then.");
        CodeMaker x = Checks.made(TEXT);
        x.feed(BLANKS, BLANKS, BLANKS, BLANKS, 0x20202021);
        Checks.due("code is at hand until make()", x.run(0), 4);
        Checks.due("make()", x.make(), 1);
        nothingAtHand(x);
        Checks.due("the text stays", x.end(19), TEXT.length() + 19);
        Checks.due("without the bad byte", x.make(), 0);
        Checks.due("what was set without code at hand did nothing", x.get(960), 7);
        int[] faults = {2, 6, 20, 31};
        String[] texts = {"(*", "PROGRAM", "PROGRAM p y := 1; END_PROGRAM", "PROGRAM p VAR b : BOOL; END_VAR b := 1; END_PROGRAM"};
        for (int i = 0; i < faults.length; i++) {
            Checks.feed(x, TEXT);
            Checks.due("fine", x.make(), 0);
            Checks.feed(x, texts[i]);
            Checks.due("fault", x.make(), faults[i]);
            nothingAtHand(x);
        }
    }

    private static void countOfFaults() {
        Checks.says("0 the fault of the last make() (0 without), 1 its place (NONE without);");
        CodeMaker x = new CodeMaker();
        Checks.due("new: fault", x.count(0), 0);
        Checks.due("new: place", x.count(1), CodeMaker.NONE);
        x.make();
        Checks.due("empty: fault", x.count(0), 10);
        Checks.due("empty: place", x.count(1), 0);
        Checks.feed(x, TEXT);
        Checks.due("until make()", x.count(0), 10);
        x.make();
        Checks.due("fine: fault", x.count(0), 0);
        Checks.due("fine: place", x.count(1), CodeMaker.NONE);
        Checks.feed(x, " ".repeat(8191) + "!");
        x.make();
        Checks.due("last byte: fault", x.count(0), 1);
        Checks.due("last byte: place", x.count(1), 8191);
        Checks.feed(x, "PROGRAM" + " ".repeat(8185));
        x.make();
        Checks.due("end of a full text: fault", x.count(0), 6);
        Checks.due("end of a full text: place", x.count(1), 8192);
    }

    private static void countAtHand() {
        Checks.says("with code at hand (else 0): 2 how many units, 3 how many instructions, 4 how many cells: those of the PROGRAM and of all FUNCTIONS;");
        nothingAtHand(new CodeMaker());
        CodeMaker least = Checks.made("PROGRAM p END_PROGRAM");
        int[] due = {0, -1, 1, 0, 960, 0, 0, 0};
        for (int which = 0; which < due.length; which++) {
            Checks.due("count(" + which + ") of the least PROGRAM", least.count(which), due[which]);
        }
        CodeMaker more = Checks.made("FUNCTION f : INT VAR a : INT; END_VAR END_FUNCTION FUNCTION_BLOCK g VAR b, c, d : INT; END_VAR b := 1; END_FUNCTION_BLOCK "
            + "FUNCTION h : INT LADDER END_LADDER END_FUNCTION PROGRAM p VAR x : BOOL; END_VAR RETURN; END_PROGRAM");
        Checks.due("units", more.count(2), 4);
        Checks.due("instructions", more.count(3), 4 + 2 + 2 + 1);
        Checks.due("cells, those of a FUNCTION_BLOCK without instances not counted", more.count(4), 961 + 2 + 157);
    }

    private static void countOfSteps() {
        Checks.says("5 steps of the last run that was not LONG or NONE (0 behind make()), 6 NOW, 7 the bound of the PROGRAM.");
        CodeMaker x = Checks.made("PROGRAM p VAR x, y : INT; END_VAR y := 10 / x; IF y > 5 THEN y := 1; END_IF; END_PROGRAM");
        Checks.due("behind make()", x.count(5), 0);
        Checks.due("NOW behind make()", x.count(6), 0);
        Checks.due("the bound", x.count(7), 10);
        Checks.due("ZERO", x.run(30), CodeMaker.ZERO);
        Checks.due("its steps", x.count(5), 3);
        Checks.due("its ticks", x.count(6), 30);
        x.set(960, 5);
        Checks.due("a run", x.run(12), 8);
        Checks.due("its steps", x.count(5), 8);
        Checks.due("all ticks", x.count(6), 42);
        Checks.due("NONE", x.run(-1), CodeMaker.NONE);
        Checks.due("NONE", x.run(100001), CodeMaker.NONE);
        Checks.due("steps of the run before", x.count(5), 8);
        Checks.due("ticks of the runs before", x.count(6), 42);
        x.set(960, 1);
        Checks.due("the longest way", x.run(0), 10);
        Checks.due("its steps", x.count(5), 10);
        x.make();
        Checks.due("behind make() again", x.count(5), 0);
        Checks.due("NOW behind make() again", x.count(6), 0);
        CodeMaker y = Checks.made("PROGRAM p VAR x : DINT; END_VAR FOR x := 1 TO 1000000 DO END_FOR; END_PROGRAM");
        Checks.due("LONG", y.run(9), CodeMaker.LONG);
        Checks.due("no steps", y.count(5), 0);
        Checks.due("no ticks", y.count(6), 0);
        Checks.due("a great bound", y.count(7), 6000004);
    }

    private static void countRefused() {
        Checks.says("7 the bound of the PROGRAM. NONE: another number.");
        CodeMaker x = new CodeMaker();
        CodeMaker y = Checks.made(TEXT);
        for (int which : new int[] {-1, 8, 9, 256, LEAST, LEAST + 1, MOST}) {
            Checks.due("count(" + which + ") of nothing", x.count(which), CodeMaker.NONE);
            Checks.due("count(" + which + ")", y.count(which), CodeMaker.NONE);
        }
        Checks.due("count(7) of nothing", x.count(7), 0);
        Checks.due("count(7)", y.count(7), 4);
    }

    private static void lengths() {
        Checks.says("How many instructions a unit has. NONE: there is none such.");
        CodeMaker x = Checks.made("FUNCTION_BLOCK g END_FUNCTION_BLOCK FUNCTION f : INT END_FUNCTION " + TEXT);
        int[] due = {0, 2, 4};
        for (int unit = 0; unit < due.length; unit++) {
            Checks.due("length(" + unit + ")", x.length(unit), due[unit]);
        }
        for (int unit : new int[] {-1, 3, 15, 16, 17, 3000, LEAST, MOST}) {
            Checks.due("length(" + unit + ")", x.length(unit), CodeMaker.NONE);
        }
        CodeMaker y = Checks.made("PROGRAM p END_PROGRAM");
        Checks.due("length of an empty PROGRAM", y.length(0), 0);
        Checks.due("behind it", y.length(1), CodeMaker.NONE);
        Checks.feed(y, "");
        y.make();
        Checks.due("nothing at hand", y.length(0), CodeMaker.NONE);
    }

    private static void tellingOperands() {
        Checks.says("1 to 3 what is told with it, in order (0 for what is not);");
        CodeMaker x = Checks.made("FUNCTION f : INT VAR_INPUT i : INT; END_VAR END_FUNCTION FUNCTION_BLOCK g END_FUNCTION_BLOCK "
            + Checks.program("x : INT; b : BOOL; a : ARRAY [-3 .. 4] OF INT; t : TON; y : g;",
                "a[-3] := a[4]; x := f(5); x := SEL(b, x, -x); FOR x := 1 TO 3 DO IF b THEN EXIT; END_IF; END_FOR; t(); y(); RETURN;"));
        int[][] due = {{0, -3, 0, 0}, {0, 4, 0, 0}, {3, 962, -3, 8}, {4, 962, -3, 8}, {0, 5, 0, 0}, {6, 0, 1, 0}, {16, 0, 0, 0}, {5, 0, 0, 0},
            {2, 960, 0, 0}, {1, 961, 0, 0}, {1, 960, 0, 0}, {1, 960, 0, 0}, {8, 0, 0, 0}, {9, 0, 0, 0}, {2, 960, 0, 0}, {0, 1, 0, 0}, {2, 960, 0, 0},
            {12, 976, 3, 0}, {13, 976, 27, 0}, {1, 961, 0, 0}, {11, 22, 0, 0}, {10, 27, 0, 0}, {1, 960, 0, 0}, {0, 1, 0, 0}, {7, 0, 0, 0},
            {2, 960, 0, 0}, {14, 18, 0, 0}, {17, 0, 970, 0}, {15, 1, 976, 0}, {18, 0, 0, 0}};
        Checks.due("how many", x.length(2), due.length);
        for (int i = 0; i < due.length; i++) {
            for (int what = 0; what < 4; what++) {
                Checks.due("told(2, " + i + ", " + what + ")", x.told(2, i, what), due[i][what]);
            }
        }
    }

    private static void tellingNone() {
        Checks.says("answers 0 when there is no such one.");
        CodeMaker x = Checks.made("FUNCTION f : INT f := 7; END_FUNCTION PROGRAM p VAR x : INT; END_VAR x := 9; END_PROGRAM");
        Checks.due("the last one of unit 0", x.told(0, 3, 0), 2);
        Checks.due("behind it", x.told(0, 4, 0), 0);
        Checks.due("behind it, as it would be of unit 1", x.told(0, 4, 1), 0);
        Checks.due("before unit 1, as it would be of unit 0", x.told(1, -1, 0), 0);
        Checks.due("before unit 1, as it would be of unit 0", x.told(1, -2, 1), 0);
        Checks.due("the last one of all", x.told(1, 1, 1), 960);
        for (int odd : new int[] {-1, 2, 4, 3000, LEAST, MOST}) {
            Checks.due("told(1, " + odd + ", 1)", x.told(1, odd, 1), 0);
            Checks.due("told(" + odd + ", 1, 1)", x.told(odd, 1, 1), 0);
        }
        for (int what : new int[] {-1, 4, 5, LEAST, MOST}) {
            Checks.due("told(1, 1, " + what + ")", x.told(1, 1, what), 0);
        }
    }

    private static void setting() {
        Checks.says("A cell becomes v: what it was (0 when there is none: nothing changes).");
        CodeMaker x = Checks.made("FUNCTION f : INT VAR_INPUT i : INT := 3; END_VAR END_FUNCTION PROGRAM p VAR x : INT := 5; END_VAR END_PROGRAM");
        Checks.due("cells", x.count(4), 963);
        int[] was = {0, 5, 0, 3};
        int[] cells = {0, 960, 961, 962};
        for (int i = 0; i < cells.length; i++) {
            Checks.due("set(" + cells[i] + ")", x.set(cells[i], LEAST + i), was[i]);
            Checks.due("set again", x.set(cells[i], MOST - i), LEAST + i);
        }
        for (int cell : new int[] {-1, 963, 964, 8191, 8192, 8193, LEAST, MOST}) {
            Checks.due("set(" + cell + ", 9)", x.set(cell, 9), 0);
            Checks.due("again", x.set(cell, 8), 0);
        }
        for (int i = 0; i < cells.length; i++) {
            Checks.due("nothing changed", x.get(cells[i]), MOST - i);
        }
        for (int cell = 1; cell < 960; cell++) {
            Checks.due("nothing changed", x.get(cell), 0);
        }
    }

    private static void getting() {
        Checks.says("A cell; 0 when there is none.");
        CodeMaker x = Checks.made("PROGRAM p VAR a : ARRAY [1 .. 3] OF INT := 6; END_VAR END_PROGRAM");
        Checks.due("the first cell", x.set(0, 4), 0);
        Checks.due("get of it", x.get(0), 4);
        Checks.due("the last cell", x.get(962), 6);
        for (int cell : new int[] {-1, 963, 8191, 8192, LEAST, MOST}) {
            Checks.due("get(" + cell + ")", x.get(cell), 0);
        }
        Checks.feed(x, "PROGRAM p END_PROGRAM");
        Checks.due("a lesser PROGRAM", x.make(), 0);
        Checks.due("what was there before", x.get(962), 0);
        Checks.due("the first cell anew", x.get(0), 0);
    }

    private static void runTicks() {
        Checks.says("A run by so many ticks (0 .. 100,000): how many steps; ZERO, INDEX.");
        CodeMaker x = Checks.made(TEXT);
        Checks.due("run(0)", x.run(0), 4);
        Checks.due("NOW", x.count(6), 0);
        Checks.due("run(1)", x.run(1), 4);
        Checks.due("run(100000)", x.run(100000), 4);
        Checks.due("NOW", x.count(6), 100001);
        Checks.due("each was a run", x.get(960), 10);
        Checks.due("run of no instructions", Checks.made("PROGRAM p END_PROGRAM").run(100000), 0);
    }

    private static void runFaults() {
        Checks.says("how many steps; ZERO, INDEX.");
        Checks.due("ZERO", Checks.made("PROGRAM p VAR x : INT; END_VAR x := x / x; END_PROGRAM").run(0), -3);
        Checks.due("INDEX", Checks.made("PROGRAM p VAR a : ARRAY [1 .. 1] OF INT; END_VAR a[0] := 1; END_PROGRAM").run(0), -4);
        Checks.due("the first of both", Checks.made("PROGRAM p VAR a : ARRAY [1 .. 1] OF INT; END_VAR a[0] := 1 / a[1]; END_PROGRAM").run(0), -3);
        Checks.due("the first of both", Checks.made("PROGRAM p VAR a : ARRAY [1 .. 1] OF INT; END_VAR a[1] := a[2] / 0; END_PROGRAM").run(0), -4);
    }

    private static void runLong() {
        Checks.says("LONG: the bound of the PROGRAM is above 50,000; nothing is run then, and no ticks go by.");
        // 3 + 6 * 8,331 + 1 of the loop, and five statements of two steps
        String body = "FOR x := 1 TO 8331 DO END_FOR; y := 1; y := 2; y := 3; y := 4; y := 5;";
        CodeMaker most = Checks.made(Checks.program("x, y : DINT;", body));
        Checks.due("the bound", most.count(7), 50000);
        Checks.due("the longest run", most.run(7), 50000);
        Checks.due("its ticks", most.count(6), 7);
        Checks.due("its cells", most.get(961), 5);
        CodeMaker more = Checks.made(Checks.program("x, y : DINT;", body + "RETURN;"));
        Checks.due("the bound", more.count(7), 50001);
        Checks.due("LONG", more.run(7), -5);
        Checks.due("no ticks", more.count(6), 0);
        Checks.due("nothing is run", more.get(961), 0);
        Checks.due("no steps", more.count(5), 0);
        // what would be run is short, but not what its bound says
        CodeMaker early = Checks.made(Checks.program("x, y : DINT;", "IF FALSE THEN FOR x := 1 TO 9000 DO END_FOR; END_IF; y := 1;"));
        Checks.due("LONG by its bound alone", early.run(7), -5);
        CodeMaker other = Checks.made("FUNCTION f : INT VAR d : DINT; END_VAR FOR d := 1 TO 9000 DO END_FOR; END_FUNCTION PROGRAM p END_PROGRAM");
        Checks.due("of the PROGRAM, not of a FUNCTION", other.run(7), 0);
    }

    private static void runRefused() {
        Checks.says("NONE, before LONG: other ticks; nothing is at hand.");
        CodeMaker x = Checks.made(TEXT);
        CodeMaker isLong = Checks.made(Checks.program("x : DINT;", "FOR x := 1 TO 9000 DO END_FOR;"));
        CodeMaker empty = new CodeMaker();
        for (int ticks : new int[] {-1, 100001, LEAST, MOST, -100000}) {
            Checks.due("run(" + ticks + ")", x.run(ticks), CodeMaker.NONE);
            Checks.due("run(" + ticks + ") before LONG", isLong.run(ticks), CodeMaker.NONE);
            Checks.due("run(" + ticks + ") of nothing", empty.run(ticks), CodeMaker.NONE);
        }
        Checks.due("nothing was run", x.get(960), 7);
        Checks.due("no ticks", x.count(6), 0);
        Checks.due("no steps", x.count(5), 0);
        Checks.due("nothing at hand", empty.run(0), CodeMaker.NONE);
        Checks.due("nothing at hand", empty.run(100000), CodeMaker.NONE);
        Checks.due("LONG then", isLong.run(100000), CodeMaker.LONG);
        Checks.due("LONG then", isLong.run(0), CodeMaker.LONG);
    }
}
