/** Each sentence of 'MADE' that names an edge, with a test of its own. */
public final class MadeEdgeTests {
    private static final String XB = "x : INT; d : DINT; b : BOOL;";
    private static final String LEAST = "PROGRAM p END_PROGRAM";
    private static final String EIGHT = "FUNCTION f : INT VAR_INPUT a, b, c, d, e, g, h, i : INT; END_VAR END_FUNCTION ";
    private static final String NOTHING = "FUNCTION n : INT END_FUNCTION ";

    public static void main(String[] args) {
        order();
        blocks();
        instructions();
        stack();
        stackByInstruction();
        stackIsEven();
        notComeTo();
        loopsComeTo();
        unitsOnTop();
        deepUnits();
        bounds();
        boundsOfUnits();
        ways();
        loopWays();
        leavingLoops();
        unitOrder();
        cellsBehind();
        runs();
        faultsOfRuns();
        Checks.finish("MadeEdgeTests");
    }

    private static void order() {
        Checks.says("After reading (faults 1 to 7) and rules (10 to 44), with the place in the text: 50 (place 0):");
        String many = many(17);
        Checks.faulty(6, many + "PROGRAM p \u00b6) END_PROGRAM");
        Checks.faulty(20, many + "PROGRAM p \u00b6y := 1; END_PROGRAM");
        Checks.faulty(50, "\u00b6" + many + LEAST);
        Checks.faulty(50, "\u00b6  " + many + LEAST);
        // 50 comes before 51 and 52 of any unit
        Checks.faulty(50, "\u00b6" + many + EIGHT + Checks.program(XB, "x := " + laying(65, "x") + ";"));
        Checks.faulty(50, "\u00b6" + many + Checks.program(XB, tooLong()));
    }

    /** So many FUNCTION_BLOCKs without anything. */
    private static String many(int blocks) {
        StringBuilder text = new StringBuilder();
        for (int i = 0; i < blocks; i++) {
            text.append("FUNCTION_BLOCK g").append(i).append(" END_FUNCTION_BLOCK ");
        }
        return text.toString();
    }

    private static void blocks() {
        Checks.says("there are more than 16 blocks,");
        CodeMaker x = Checks.made(many(15) + LEAST);
        Checks.due("units", x.count(2), 16);
        Checks.due("the last one", x.length(15), 0);
        Checks.due("behind it", x.length(16), CodeMaker.NONE);
        Checks.faulty(50, "\u00b6" + many(16) + LEAST);
        Checks.faulty(50, "\u00b6" + many(100) + LEAST);
        Checks.due("one", Checks.made(LEAST).count(2), 1);
    }

    private static void instructions() {
        Checks.says("or more than 3,000 instructions in all.");
        String most = "b:=b;".repeat(1500);
        CodeMaker x = Checks.made(Checks.program("b : BOOL;", most));
        Checks.due("instructions", x.count(3), 3000);
        Checks.due("the last one", x.told(0, 2999, 0), 2);
        Checks.due("its cell", x.told(0, 2999, 1), 960);
        Checks.due("a run", x.run(0), 3000);
        Checks.faulty(50, "\u00b6" + Checks.program("b : BOOL;", most + "RETURN;"));
        Checks.due("one less", Checks.made(Checks.program("b : BOOL;", "b:=b;".repeat(1499) + "RETURN;")).count(3), 2999);
        // in all: those of two units, each of which has less
        Checks.due("in two units", Checks.made(NOTHING + Checks.program("b : BOOL;", "b:=b;".repeat(1499))).count(3), 3000);
        Checks.faulty(50, "\u00b6" + NOTHING + Checks.program("b : BOOL;", "b:=b;".repeat(1499) + "RETURN;"));
        Checks.faulty(50, "\u00b6" + Checks.program("b : BOOL;", "RETURN;" + "b:=b;".repeat(1500)));
        // behind the last one is where a jump leads to
        CodeMaker behind = Checks.made(Checks.program("b : BOOL;", "b:=b;".repeat(1496) + "b := NOT b; IF b THEN b := b; ELSE END_IF;"));
        Checks.due("a jump behind the last one", behind.told(0, 2999, 1), 3000);
        Checks.due("instructions", behind.count(3), 3000);
        Checks.due("the bound", behind.count(7), 3000);
        Checks.due("a run", behind.run(0), 3000);
        // the last ones are a loop's, or a jump's
        String loop = "FOR x := 1 TO 2 DO EXIT; END_FOR;";
        Checks.due("a loop at the end", Checks.made(Checks.program("b : BOOL; x : INT;", "b:=b;".repeat(1495) + loop)).count(3), 3000);
        Checks.faulty(50, "\u00b6" + Checks.program("b : BOOL; x : INT;", "b:=b;".repeat(1495) + loop + "RETURN;"));
        Checks.faulty(50, "\u00b6" + Checks.program("b : BOOL; x : INT;", "b:=b;".repeat(1497) + loop));
        Checks.faulty(50, "\u00b6" + Checks.program("b : BOOL; x : INT;", "b:=b;".repeat(1499) + "IF b THEN b := b; ELSE b := b; END_IF;"));
    }

    /** An expression that lays so many numbers, of 58 and more: nine calls of eight operands, of which seven wait each time, and the rest by sums. */
    private static String laying(int numbers, String last) {
        int rest = numbers - 64;
        return rest < 0 ? "f(x, x, x, x, x, x, x, ".repeat(8) + sums(numbers - 57, last) + ")".repeat(8) : "f(x, x, x, x, x, x, x, ".repeat(9) + sums(rest, last) + ")".repeat(9);
    }

    private static String sums(int waiting, String last) {
        return "(x + ".repeat(waiting) + last + ")".repeat(waiting);
    }

    private static void stack() {
        Checks.says("51: more than 64 numbers would lie on the stack behind one of its instructions");
        Checks.fine(EIGHT + Checks.program(XB, "x := " + laying(63, "x") + ";"));
        CodeMaker x = Checks.made(EIGHT + Checks.program(XB, "x := " + laying(64, "x") + ";"));
        Checks.due("its run", x.run(0), x.count(7));
        Checks.faulty(51, EIGHT + "\u00b6" + Checks.program(XB, "x := " + laying(65, "x") + ";"));
        Checks.faulty(51, EIGHT + "\u00b6" + Checks.program(XB, "x := " + laying(66, "x") + ";"));
        Checks.faulty(51, EIGHT + "\u00b6FUNCTION_BLOCK k VAR x : INT; END_VAR x := " + laying(65, "x") + "; END_FUNCTION_BLOCK " + LEAST);
        Checks.faulty(51, EIGHT + "\u00b6FUNCTION k : INT VAR x : INT; END_VAR x := " + laying(65, "x") + "; END_FUNCTION " + LEAST);
        // one behind the other do not come together
        Checks.fine(EIGHT + Checks.program(XB, ("x := " + laying(64, "x") + ";").repeat(10)));
    }

    private static void stackByInstruction() {
        Checks.says("(what a unit that it begins lays on top is not counted: there is room for that);");
        // the 64th number is laid by PUSH, LOAD, READ, or left by TAKE, ONE
        String[] lasts = {"1", "x", "n()", "a[x]", "-x", "ABS(x)", "y"};
        for (String last : lasts) {
            String program = Checks.program("x, y : INT; a : ARRAY [0 .. 1] OF INT;", "x := %;");
            Checks.fine(EIGHT + NOTHING + program.replace("%", laying(64, last)));
            Checks.faulty(51, EIGHT + NOTHING + "\u00b6" + program.replace("%", laying(65, last)));
        }
        // an index waits below what is put
        Checks.fine(EIGHT + Checks.program("x : INT; a : ARRAY [0 .. 1] OF INT;", "a[0] := " + laying(63, "x") + ";"));
        Checks.faulty(51, EIGHT + "\u00b6" + Checks.program("x : INT; a : ARRAY [0 .. 1] OF INT;", "a[0] := " + laying(64, "x") + ";"));
        Checks.fine(EIGHT + Checks.program("x : INT; a : ARRAY [0 .. 1] OF INT;", "a[" + laying(64, "x") + "] := 1;"));
        Checks.faulty(51, EIGHT + "\u00b6" + Checks.program("x : INT; a : ARRAY [0 .. 1] OF INT;", "a[" + laying(65, "x") + "] := 1;"));
    }

    private static void stackIsEven() {
        Checks.says("51: more than 64 numbers would lie on the stack behind one of its instructions that can be come to");
        String variables = "x : INT; d : DINT; b : BOOL; a : ARRAY [0 .. 1] OF INT; t : TON; k : m;";
        String block = EIGHT + "FUNCTION_BLOCK m END_FUNCTION_BLOCK ";
        for (String before : new String[] {"a[0] := 1;", "x := a[0];", "x := f(x, x, x, x, x, x, x, x);", "x := SEL(b, x, 1);", "x := -x;", "x := x + x;", "t(IN := b, PT := 1);", "k();",
            "IF b THEN END_IF;", "IF b THEN ELSE END_IF;", "IF b THEN ELSIF b THEN ELSE END_IF;", "CASE x OF 1, 2 .. 3: ELSE END_CASE;", "FOR d := 1 TO 2 DO END_FOR;",
            "FOR d := 1 TO 2 DO IF b THEN EXIT; END_IF; END_FOR;", "IF b THEN RETURN; END_IF;", "x := LIMIT(x, 1, x);"}) {
            Checks.fine(block + Checks.program(variables, before + "x := " + laying(64, "x") + ";"));
            Checks.faulty(51, block + "\u00b6" + Checks.program(variables, before + "x := " + laying(65, "x") + ";"));
            Checks.fine(block + Checks.program(variables, before.repeat(70)));
        }
    }

    private static void notComeTo() {
        Checks.says("that can be come to");
        String deep = "x := " + laying(65, "x") + ";";
        for (String before : new String[] {"RETURN;", "IF b THEN RETURN; ELSE RETURN; END_IF;", "CASE x OF 1: RETURN; ELSE RETURN; END_CASE;",
            "IF b THEN RETURN; ELSIF b THEN RETURN; ELSE RETURN; END_IF;"}) {
            Checks.fine(EIGHT + Checks.program(XB, before + deep));
        }
        for (String before : new String[] {"", "IF b THEN RETURN; END_IF;", "IF b THEN RETURN; ELSE END_IF;", "IF b THEN ELSE RETURN; END_IF;", "IF TRUE THEN RETURN; END_IF;",
            "CASE x OF 1: RETURN; END_CASE;", "CASE x OF ELSE IF FALSE THEN ELSE RETURN; END_IF; END_CASE;"}) {
            Checks.faulty(51, EIGHT + "\u00b6" + Checks.program(XB, before + deep));
        }
        Checks.fine(EIGHT + Checks.program(XB, "CASE x OF ELSE RETURN; END_CASE;" + deep));
        Checks.faulty(51, EIGHT + "\u00b6" + Checks.program(XB, "IF FALSE THEN " + deep + " END_IF;"));
        Checks.fine(EIGHT + Checks.program(XB, "IF b THEN RETURN; " + deep + " END_IF;"));
        Checks.fine(EIGHT + Checks.program(XB, "FOR d := 1 TO 2 DO EXIT; " + deep + " END_FOR;"));
        Checks.fine(EIGHT + Checks.program(XB, "FOR d := 1 TO 2 DO RETURN; " + deep + " END_FOR;"));
        Checks.fine(EIGHT + Checks.program(XB, "RETURN; FOR d := 1 TO 2 DO " + deep + " END_FOR; " + deep));
        // the instruction that is too much may be one of those that can't, the one before it can
        Checks.fine(EIGHT + Checks.program(XB, "x := " + laying(64, "x") + "; RETURN; " + deep));
        // nor do numbers lead there that are told with other instructions
        for (int i = 1; i < 120; i += 7) {
            Checks.fine(EIGHT + Checks.program(XB, "FOR d := 1 TO " + i + " DO END_FOR; x := " + i + "; RETURN; " + deep));
        }
    }

    private static void loopsComeTo() {
        Checks.says("(of a loop its body, whatever its COUNT, and what is behind it)");
        String deep = "x := " + laying(65, "x") + ";";
        for (String way : new String[] {"1 TO 0", "1 TO 1", "1 TO 5"}) {
            Checks.faulty(51, EIGHT + "\u00b6" + Checks.program(XB, "FOR d := " + way + " DO " + deep + " END_FOR;"));
            Checks.faulty(51, EIGHT + "\u00b6" + Checks.program(XB, "FOR d := " + way + " DO RETURN; END_FOR; " + deep));
            Checks.faulty(51, EIGHT + "\u00b6" + Checks.program(XB, "FOR d := " + way + " DO EXIT; END_FOR; " + deep));
            Checks.faulty(51, EIGHT + "\u00b6" + Checks.program(XB, "FOR d := " + way + " DO END_FOR; " + deep));
        }
    }

    private static void unitsOnTop() {
        Checks.says("if the unit begins with none");
        // each of fifteen units has 64 numbers of its own when it begins the next one
        StringBuilder text = new StringBuilder(EIGHT);
        String last = "x";
        for (int i = 0; i < 14; i++) {
            text.append("FUNCTION k").append(i).append(" : INT VAR_INPUT x : INT; END_VAR k").append(i).append(" := ").append(laying(64, last)).append("; END_FUNCTION ");
            last = "k" + i + "(x)";
        }
        CodeMaker x = Checks.made(text + Checks.program("x : INT;", "x := " + last + ";"));
        Checks.due("units", x.count(2), 16);
        Checks.due("a run through all of them", x.run(0), x.count(7));
        // what waits below is still there behind a CALL
        CodeMaker y = Checks.made("FUNCTION f : INT VAR_INPUT a, b, c, d, e, g, h, i : INT; END_VAR f := a + b + c + d + e + g + h + i; END_FUNCTION "
            + "FUNCTION k : INT VAR_INPUT x : INT; END_VAR k := " + laying(64, "x") + "; END_FUNCTION " + Checks.program("x : INT := 1; r : INT;", "r := " + laying(64, "k(x)") + ";"));
        Checks.due("its run", y.run(0), y.count(7));
        Checks.due("64 ones in each of both", y.get(961), 127);
    }

    private static void deepUnits() {
        Checks.says("with those of units that it begins, each instruction being a STEP:");
        // fifteen instances, each within the next one; each has a variable before and one behind
        StringBuilder text = new StringBuilder("FUNCTION_BLOCK c0 VAR u : INT := 100; v : INT := 200; END_VAR u := u + 1; END_FUNCTION_BLOCK ");
        for (int i = 1; i < 15; i++) {
            text.append("FUNCTION_BLOCK c").append(i).append(" VAR u : INT := ").append(100 + i).append("; k : c").append(i - 1).append("; v : INT := ").append(200 + i)
                .append("; END_VAR k(); u := u + 1; END_FUNCTION_BLOCK ");
        }
        CodeMaker x = Checks.made(text + Checks.program("k : c14;", "k();"));
        for (int i = 0; i < 15; i++) {
            Checks.due("constant before", x.get(960 + i), 114 - i);
            Checks.due("constant behind", x.get(960 + 15 + i), 200 + i);
        }
        Checks.due("steps", x.run(0), 4 + 14 * 5 + 1);
        Checks.due("the bound", x.count(7), 4 + 14 * 5 + 1);
        for (int i = 0; i < 15; i++) {
            Checks.due("each was run once", x.get(960 + i), 115 - i);
            Checks.due("the other ones stay", x.get(960 + 15 + i), 200 + i);
        }
        // as many units end as there are steps, almost
        CodeMaker y = Checks.made("FUNCTION_BLOCK g END_FUNCTION_BLOCK " + Checks.program("k : g; x : INT;", "FOR x := 1 TO 49 DO " + "k();".repeat(1000) + " END_FOR;"));
        Checks.due("the bound", y.count(7), 3 + 49 * 1006 + 1);
        Checks.due("a run", y.run(0), 3 + 49 * 1006 + 1);
        Checks.due("it went on to the end", y.get(960), 50);
    }

    private static String tooLong() {
        return "FOR d := 1 TO 1000000 DO FOR x := 1 TO 200 DO END_FOR; END_FOR;";
    }

    private static void bounds() {
        Checks.says("52: its BOUND is above 1,000,000,000.");
        // 3 + 999,999 * (994 + 6) + 1, and 996 behind
        String most = "FOR d := 1 TO 999999 DO " + "b:=b;".repeat(497) + " END_FOR;" + "b:=b;".repeat(498);
        CodeMaker x = Checks.made(Checks.program(XB, most));
        Checks.due("the bound", x.count(7), 1000000000);
        Checks.due("it is LONG", x.run(0), CodeMaker.LONG);
        Checks.faulty(52, "\u00b6" + Checks.program(XB, most + "RETURN;"));
        Checks.due("one less", Checks.made(Checks.program(XB, most.substring(0, most.length() - 5) + "RETURN;")).count(7), 999999999);
        Checks.faulty(52, "  \u00b6" + Checks.program(XB, tooLong()));
        // bounds that would wrap around in 32 bits, and in 64
        String ten = "FOR d := 1 TO 10000 DO ";
        Checks.faulty(52, "\u00b6" + Checks.program(XB + "e : DINT;", ten + "FOR e := 1 TO 71583 DO END_FOR; END_FOR;"));
        StringBuilder names = new StringBuilder();
        StringBuilder deep = new StringBuilder();
        for (int i = 0; i < 60; i++) {
            names.append("v").append(i).append(" : DINT; ");
            deep.append("FOR v").append(i).append(" := 1 TO ").append(i % 3 == 0 ? 1000000 : 65536).append(" DO ");
            Checks.faultyAt(i < 1 ? 0 : 52, 0, Checks.program(names.toString(), deep + "END_FOR;".repeat(i + 1)));
        }
    }

    private static void boundsOfUnits() {
        Checks.says("The bound is the greatest number of steps that some way through the unit takes, with those of units that it begins, each instruction being a STEP:");
        String half = "VAR d : DINT; b : BOOL; END_VAR FOR d := 1 TO 500000 DO " + "b:=b;".repeat(497) + " END_FOR;";
        String f = "FUNCTION_BLOCK f " + half + " END_FUNCTION_BLOCK ";
        // 500,000,004 twice, and 2 steps of its own, are 10 too many
        Checks.due("half of it", Checks.made(f + Checks.program("k : f;", "k();")).count(7), 500000005);
        Checks.faulty(52, f + "\u00b6" + Checks.program("k : f;", "k(); k();"));
        Checks.due("one of both", Checks.made(f + Checks.program("k : f; b : BOOL;", "IF b THEN k(); ELSE k(); END_IF;")).count(7), 500000005 + 3);
        // a unit has nothing of the one before it, nor of what was made before
        String left = "FUNCTION l : INT VAR b : BOOL; END_VAR b := b; b := b; b := b; RETURN; END_FUNCTION ";
        CodeMaker short1 = Checks.made(left + Checks.program("b : BOOL;", "b := b;"));
        Checks.due("behind a unit with LEAVE", short1.count(7), 2);
        Checks.feed(short1, Checks.program("b : BOOL;", "b := b; b := b; b := b; RETURN;"));
        Checks.due("make()", short1.make(), 0);
        Checks.due("a longer one", short1.count(7), 7);
        Checks.feed(short1, Checks.program("b : BOOL;", "b := b;"));
        Checks.due("make()", short1.make(), 0);
        Checks.due("a shorter one behind it", short1.count(7), 2);
        // a chain of units, each of which begins the one before it ten times
        StringBuilder chain = new StringBuilder("FUNCTION_BLOCK c0 VAR b : BOOL; END_VAR b := b; END_FUNCTION_BLOCK ");
        long bound = 2;
        int place = 0;
        for (int i = 1; i < 15; i++) {
            String block = "FUNCTION_BLOCK c" + i + " VAR k : c" + (i - 1) + "; END_VAR " + "k(); ".repeat(10) + "END_FUNCTION_BLOCK ";
            // the first one that is too long is told
            place = bound > 1000000000 ? place : chain.length();
            bound = 10 * (bound + 1);
            Checks.faultyAt(bound > 1000000000 ? 52 : 0, place, chain + block + LEAST);
            chain.append(block);
        }
        Checks.due("it became too long", bound > 1000000000, true);
    }

    private static void bound(String statements, int want) {
        Checks.due("bound of " + statements, Checks.made(Checks.program(XB, statements)).count(7), want);
    }

    private static void ways() {
        Checks.says("an UNLESS may go both ways;");
        bound("", 0);
        bound("RETURN;", 1);
        bound("RETURN; x := 1; x := 1;", 1);
        bound("IF b THEN x := 1; END_IF;", 4);
        bound("IF FALSE THEN x := 1; END_IF;", 4);
        bound("IF TRUE THEN ELSE x := 1; x := 2; END_IF;", 6);
        bound("IF b THEN x := 1; ELSE END_IF;", 5);
        bound("IF b THEN x := 1; RETURN; END_IF; x := 2;", 5);
        bound("IF b THEN x := 1; x := 1; RETURN; END_IF; x := 2;", 7);
        bound("IF b THEN RETURN; END_IF; x := 2;", 4);
        bound("IF b THEN RETURN; ELSE RETURN; END_IF; x := 2; x := 2;", 3);
        bound("IF b THEN ELSIF b THEN ELSIF b THEN x := 1; END_IF;", 8);
        // numbers that are told with other instructions are no ways
        for (int i = 0; i < 40; i++) {
            bound("x := " + i + "; RETURN; " + "b := b; ".repeat(20), 3);
            bound("FOR d := 1 TO " + i + " DO END_FOR; RETURN; " + "b := b; ".repeat(20), 3 + 6 * i + 1 + 1);
        }
        bound("RETURN; FOR d := 1 TO 0 DO END_FOR; b := b; b := b;", 1);
        bound("RETURN; FOR d := 1 TO 5 DO b := b; END_FOR; b := b; b := b;", 1);
        bound("RETURN; FOR d := 1 TO 5 DO IF b THEN RETURN; END_IF; EXIT; END_FOR; b := b; b := b;", 1);
    }

    private static void loopWays() {
        Checks.says("a loop is gone through as often as its COUNT says, and then goes on behind its BACK,");
        bound("FOR x := 1 TO 0 DO b := b; END_FOR; b := b;", 3 + 1 + 2);
        bound("FOR x := 1 TO 1 DO b := b; END_FOR; b := b;", 3 + 8 + 1 + 2);
        bound("FOR x := 1 TO 2 DO b := b; END_FOR; b := b;", 3 + 16 + 1 + 2);
        bound("FOR d := 1 TO 1000000 DO END_FOR;", 6000004);
        bound("FOR x := 1 TO 3 DO FOR d := 1 TO 4 DO b := b; END_FOR; END_FOR;", 3 + 3 * (6 + 3 + 32 + 1) + 1);
        bound("FOR x := 1 TO 3 DO FOR d := 1 TO 0 DO b := b; END_FOR; END_FOR;", 3 + 3 * (6 + 4) + 1);
        bound("FOR x := 1 TO 0 DO FOR d := 1 TO 1000000 DO END_FOR; END_FOR;", 4);
        bound("FOR x := 1 TO 3 DO IF b THEN b := b; ELSE ; END_IF; END_FOR;", 3 + 3 * (6 + 2 + 3) + 1);
    }

    private static void leavingLoops() {
        Checks.says("or it is left in one of these times (by GO or LEAVE).");
        bound("FOR x := 1 TO 5 DO EXIT; END_FOR; b := b;", 3 + 2 + 2);
        bound("FOR x := 1 TO 0 DO EXIT; END_FOR; b := b;", 3 + 1 + 2);
        bound("FOR x := 1 TO 5 DO RETURN; END_FOR;", 3 + 2);
        bound("FOR x := 1 TO 0 DO RETURN; END_FOR; b := b;", 3 + 1 + 2);
        // the last time, by a way that is longer than to go on; or shorter
        bound("FOR x := 1 TO 5 DO IF b THEN b := b OR b OR b OR b; EXIT; END_IF; END_FOR; b := b;", 3 + 4 * 8 + (1 + 2 + 8 + 1) + 2);
        bound("FOR x := 1 TO 5 DO IF b THEN b := b; EXIT; END_IF; END_FOR; b := b;", 3 + 5 * 8 + 1 + 2);
        bound("FOR x := 1 TO 5 DO IF b THEN b := b OR b OR b OR b; RETURN; END_IF; END_FOR;", 3 + 4 * 8 + (1 + 2 + 8 + 1));
        bound("FOR x := 1 TO 5 DO IF b THEN b := b OR b OR b OR b; RETURN; END_IF; END_FOR; b := b; b := b; b := b;", 3 + 5 * 8 + 1 + 6);
        bound("FOR x := 1 TO 1 DO IF b THEN b := b OR b OR b OR b; EXIT; END_IF; END_FOR;", 3 + (1 + 2 + 8 + 1));
        bound("FOR x := 1 TO 0 DO IF b THEN b := b OR b OR b OR b; EXIT; END_IF; END_FOR;", 3 + 1);
        // LEAVE in an inner loop ends both
        bound("FOR x := 1 TO 5 DO FOR d := 1 TO 4 DO IF b THEN b := b OR b OR b OR b OR b OR b; RETURN; END_IF; END_FOR; END_FOR;",
            3 + 4 * (6 + 3 + 4 * 8 + 1) + 1 + 3 + 3 * 8 + (1 + 2 + 12 + 1));
        bound("FOR x := 1 TO 5 DO FOR d := 1 TO 4 DO IF b THEN b := b OR b OR b OR b; RETURN; END_IF; END_FOR; END_FOR;", 3 + 5 * (6 + 3 + 4 * 8 + 1) + 1);
        bound("FOR x := 1 TO 5 DO FOR d := 1 TO 4 DO IF b THEN b := b OR b OR b OR b; EXIT; END_IF; END_FOR; END_FOR;", 3 + 5 * (6 + 3 + 3 * 8 + (1 + 2 + 8 + 1)) + 1);
        bound("FOR x := 1 TO 5 DO FOR d := 1 TO 4 DO RETURN; END_FOR; END_FOR; b := b;", 3 + 1 + 3 + 2);
        // a loop has nothing of the one before it
        bound("FOR x := 1 TO 1 DO IF b THEN " + "b := b; ".repeat(20) + "RETURN; END_IF; END_FOR; FOR x := 1 TO 1 DO END_FOR;", 3 + 1 + 2 + 41);
        bound("FOR x := 1 TO 1 DO IF b THEN " + "b := b; ".repeat(20) + "EXIT; END_IF; END_FOR; FOR x := 1 TO 1 DO END_FOR;", 3 + 1 + 2 + 41 + 10);
        bound("FOR x := 1 TO 9 DO END_FOR; FOR x := 1 TO 1 DO EXIT; END_FOR; FOR x := 1 TO 2 DO END_FOR;", 58 + 5 + 16);
        // a run takes no more steps than the bound
        CodeMaker x = Checks.made(Checks.program(XB + "c : BOOL;", "FOR x := 1 TO 5 DO IF x = 5 THEN c := b OR b OR b OR b; EXIT; END_IF; END_FOR; b := b;"));
        Checks.due("the longest way", x.run(0), x.count(7));
    }

    private static void unitOrder() {
        Checks.says("Then of the units in their order, at the block's place:");
        String deep = "x := " + laying(65, "x") + ";";
        String first = "FUNCTION k : INT VAR d : DINT; x : INT; END_VAR ";
        Checks.faulty(52, EIGHT + "\u00b6" + first + tooLong() + " END_FUNCTION " + Checks.program(XB, deep));
        Checks.faulty(51, EIGHT + "\u00b6" + first + deep + " END_FUNCTION " + Checks.program(XB, tooLong()));
        Checks.faulty(51, EIGHT + "\u00b6" + Checks.program(XB, tooLong() + deep));
        Checks.faulty(51, EIGHT + "\u00b6" + first + tooLong() + deep + " END_FUNCTION " + LEAST);
        Checks.faulty(52, " (* *) \u00b6" + Checks.program(XB, tooLong()));
    }

    private static void cellsBehind() {
        Checks.says("Behind that all CELLS (of the PROGRAM, of instances in it, of FUNCTIONS) are as their constants say (of an ARRAY each element), 0 without, and NOW is 0.");
        CodeMaker x = Checks.made("FUNCTION_BLOCK g VAR_INPUT i : INT := 1; END_VAR VAR_OUTPUT o : INT := 2; END_VAR VAR a : ARRAY [0 .. 1] OF INT := 3; n : INT; END_VAR END_FUNCTION_BLOCK "
            + "FUNCTION_BLOCK h VAR k, l : g; v : DINT := -2147483647; END_VAR END_FUNCTION_BLOCK FUNCTION f : INT VAR_INPUT i : BOOL := TRUE; END_VAR VAR v : INT := 4; END_VAR END_FUNCTION "
            + Checks.program("q AT %QX255 : BOOL := TRUE; m AT %MW63 : INT := -5; x : INT; y : h; z, w : ARRAY [5 .. 6] OF BOOL := TRUE; u : INT := 32767; t : TON; s : BOOL := FALSE;", ""));
        int[] due = {0, 1, 2, 3, 3, 0, 1, 2, 3, 3, 0, -2147483647, 1, 1, 1, 1, 32767, 0, 0, 0, 0, 0, 0, 0, 0, 1, 4};
        for (int round = 0; round < 2; round++) {
            Checks.due("cells", x.count(4), 960 + due.length);
            for (int i = 0; i < 960; i++) {
                Checks.due("cell " + i, x.get(i), i == 511 ? 1 : i == 959 ? -5 : 0);
            }
            for (int i = 0; i < due.length; i++) {
                Checks.due("cell " + (960 + i), x.get(960 + i), due[i]);
                x.set(960 + i, 99);
            }
            x.set(0, 99);
            x.set(959, 99);
            x.run(100000);
            Checks.due("NOW", x.count(6), 100000);
            Checks.due("make() again", x.make(), 0);
            Checks.due("NOW anew", x.count(6), 0);
        }
    }

    private static void runs() {
        Checks.says("A RUN goes by so many ticks, which come to NOW first; then the PROGRAM's unit is run.");
        CodeMaker x = Checks.made(Checks.program("t : TON;", "t(IN := TRUE, PT := 10);"));
        Checks.due("a run", x.run(7), 5);
        Checks.due("L is NOW", x.get(965), 7);
        Checks.due("a run", x.run(10), 5);
        Checks.due("these ticks have gone by", x.get(962), 1);
        Checks.due("NOW", x.count(6), 17);
        CodeMaker y = Checks.made(NOTHING + "FUNCTION_BLOCK g VAR v : INT; END_VAR v := 1; END_FUNCTION_BLOCK " + Checks.program("k : g;", ""));
        Checks.due("of the PROGRAM alone", y.run(1), 0);
        Checks.due("not of others", y.get(960), 0);
    }

    private static void faultsOfRuns() {
        Checks.says("At ZERO or INDEX (that instruction is a step, too) it ends. Cells stay as they are then.");
        CodeMaker x = Checks.made("FUNCTION f : INT VAR_INPUT i : INT; END_VAR f := 7; f := 10 / i; f := 8; END_FUNCTION "
            + Checks.program("x, y : INT; a : ARRAY [1 .. 2] OF INT;", "x := 1; y := f(y); x := 2; a[y] := 3; x := 3;"));
        Checks.due("ZERO", x.run(9), CodeMaker.ZERO);
        Checks.due("its steps, in a unit that was begun", x.count(5), 2 + 3 + 4 + 3);
        Checks.due("its ticks", x.count(6), 9);
        Checks.due("x", x.get(960), 1);
        Checks.due("y", x.get(961), 0);
        Checks.due("f", x.get(964), 7);
        x.set(961, 3);
        Checks.due("INDEX", x.run(1), CodeMaker.INDEX);
        Checks.due("its steps", x.count(5), 2 + 3 + 10 + 2 + 2 + 3);
        Checks.due("all ticks", x.count(6), 10);
        Checks.due("x", x.get(960), 2);
        Checks.due("y", x.get(961), 8);
        Checks.due("no element", x.get(962) + x.get(963), 0);
        Checks.due("the next run begins anew", x.run(0), CodeMaker.INDEX);
        deepFaults(x);
    }

    private static void deepFaults(CodeMaker x) {
        Checks.due("with no more than it had", x.count(5), 22);
        // a run that ends in a unit that was begun, then one that goes through
        x.set(961, 0);
        Checks.due("ZERO", x.run(0), CodeMaker.ZERO);
        x.set(961, 10);
        x.set(960, 0);
        Checks.due("INDEX", x.run(0), CodeMaker.INDEX);
        CodeMaker y = Checks.made("FUNCTION f : INT VAR_INPUT a, b, c, d, e, g, h, i : INT; END_VAR f := a + i; END_FUNCTION "
            + "FUNCTION z : INT VAR_INPUT i : INT; END_VAR z := 10 / i; END_FUNCTION " + Checks.program("x, r : INT;", "r := " + laying(64, "z(x)") + ";"));
        for (int i = 0; i < 40; i++) {
            Checks.due("ZERO with 63 numbers waiting", y.run(0), CodeMaker.ZERO);
        }
        y.set(960, 5);
        Checks.due("what lay there is gone", y.run(0), y.count(7));
        // i of the innermost call is 10 / 5, each call adds its a, which is 5
        Checks.due("what comes", y.get(961), 2 + 9 * 5);
        y.set(960, 0);
        Checks.due("ZERO again", y.run(0), CodeMaker.ZERO);
        Checks.due("the cell stays", y.get(961), 2 + 9 * 5);
    }
}
