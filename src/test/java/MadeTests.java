/** Promises 5 and 6: faults 50 to 52, what is counted, and the bound. */
public final class MadeTests {
    private static final String XB = "x : INT; d : DINT; b : BOOL;";

    public static void main(String[] args) {
        sizes();
        stacks();
        bounds();
        greatBounds();
        counting();
        again();
        Checks.finish("MadeTests");
    }

    private static void sizes() {
        StringBuilder blocks = new StringBuilder();
        for (int i = 0; i < 15; i++) {
            blocks.append("FUNCTION_BLOCK g").append(i).append(" END_FUNCTION_BLOCK ");
        }
        CodeMaker x = Checks.made(blocks + "PROGRAM p END_PROGRAM");
        Checks.due("units", x.count(2), 16);
        Checks.due("length of the last one", x.length(15), 0);
        Checks.due("instructions", x.count(3), 0);
        Checks.due("run of nothing", x.run(0), 0);
        Checks.faulty(50, Checks.MARK + blocks.toString() + "FUNCTION h : INT END_FUNCTION PROGRAM p END_PROGRAM");
        Checks.due("3,000 instructions", Checks.made(Checks.program("b : BOOL;", Checks.repeat("b:=b;", 1500))).count(3), 3000);
        Checks.faulty(50, Checks.MARK + Checks.program("b : BOOL;", Checks.repeat("b:=b;", 1500) + "RETURN;"));
        Checks.faulty(50, Checks.MARK + "FUNCTION f : INT END_FUNCTION " + Checks.program("b : BOOL;", Checks.repeat("b:=b;", 1499) + "RETURN;"));
        Checks.due("3,000 in two units", Checks.made("FUNCTION f : INT END_FUNCTION " + Checks.program("b : BOOL;", Checks.repeat("b:=b;", 1499))).count(3), 3000);
        Checks.faulty(50, Checks.MARK + Checks.program("b : BOOL;", "LADDER " + Checks.repeat("RUNG >b >b >b >b >b >b >b >b >b >b >b >b;END_RUNG ", 100) + "END_LADDER"));
        // jumps among what is too much
        Checks.faulty(50, Checks.MARK + Checks.program(XB, "FOR x := 1 TO 2 DO IF b THEN EXIT; END_IF; CASE x OF " + Checks.repeat("1,", 900)
            + "2: EXIT; 3: EXIT; ELSE IF b THEN EXIT; ELSE RETURN; END_IF; END_CASE; FOR d := 1 TO 2 DO EXIT; END_FOR; END_FOR;"));
    }

    /** So many numbers: 9 calls of eight operands, the first seven of which wait, lay 63, and the innermost expression the rest. */
    private static String laying(int rest) {
        return Checks.repeat("f(x, x, x, x, x, x, x, ", 9) + Checks.repeat("(x + ", rest - 1) + "x" + Checks.repeat(")", rest - 1) + Checks.repeat(")", 9);
    }

    private static void stacks() {
        String f = "FUNCTION f : INT VAR_INPUT a, b, c, d, e, g, h, i : INT; END_VAR END_FUNCTION ";
        Checks.fine(f + Checks.program(XB, "x := " + laying(1) + ";"));
        Checks.faulty(51, f + Checks.MARK + Checks.program(XB, "x := " + laying(2) + ";"));
        Checks.faulty(51, f + "\u00b6FUNCTION h : INT VAR x : INT; END_VAR x := " + laying(2) + "; END_FUNCTION PROGRAM p END_PROGRAM");
        // what can't be come to is not asked
        Checks.fine(f + Checks.program(XB, "RETURN; x := " + laying(2) + ";"));
        Checks.fine(f + Checks.program(XB, "IF b THEN RETURN; ELSE RETURN; END_IF; x := " + laying(2) + ";"));
        Checks.fine(f + Checks.program(XB, "FOR d := 1 TO 2 DO EXIT; x := " + laying(2) + "; END_FOR;"));
        Checks.faulty(51, f + Checks.MARK + Checks.program(XB, "IF b THEN RETURN; ELSE END_IF; x := " + laying(2) + ";"));
        // a loop's body can, whatever its COUNT, and what is behind it
        Checks.faulty(51, f + Checks.MARK + Checks.program(XB, "FOR d := 1 TO 0 DO x := " + laying(2) + "; END_FOR;"));
        Checks.faulty(51, f + Checks.MARK + Checks.program(XB, "FOR d := 1 TO 2 DO RETURN; END_FOR; x := " + laying(2) + ";"));
        Checks.faulty(51, f + Checks.MARK + Checks.program(XB, "FOR d := 1 TO 2 DO EXIT; END_FOR; x := " + laying(2) + ";"));
        // what a unit that is begun lays is not counted; the machine has room for it
        StringBuilder nested = new StringBuilder(f);
        String last = "f";
        for (int i = 0; i < 13; i++) {
            nested.append("FUNCTION g").append(i).append(" : INT VAR_INPUT x : INT; END_VAR g").append(i).append(" := ")
                .append(laying(1).replace("f(x, x, x, x, x, x, x, x)", "f(x, x, x, x, x, x, x, " + (i == 0 ? "x" : last + "(x)") + ")"))
                .append("; END_FUNCTION ");
            last = "g" + i;
        }
        CodeMaker x = Checks.made(nested + Checks.program(XB, "x := " + last + "(1);"));
        Checks.due("a run through all of them", x.run(0), x.count(7));
        Checks.due("what f gives", x.get(960), 0);
    }

    private static void bound(String body, int want) {
        Checks.due("bound of " + body, Checks.made(Checks.program(XB, body)).count(7), want);
    }

    private static void bounds() {
        bound("", 0);
        bound("x := 1;", 2);
        bound("RETURN; x := 1;", 1);
        bound("IF b THEN RETURN; END_IF; x := 1;", 4);
        bound("IF b THEN x := x + 1; RETURN; END_IF; x := 1;", 7);
        bound("IF b THEN x := 1; ELSE x := x + 1; END_IF;", 6);
        bound("IF b THEN x := x + 1; ELSE x := x + 1; END_IF;", 7);
        bound("FOR x := 1 TO 0 DO b := b; END_FOR;", 4);
        bound("FOR x := 1 TO 10 DO b := b; END_FOR;", 3 + 10 * 8 + 1);
        bound("FOR x := 1 TO 10 DO EXIT; END_FOR; b := b;", 3 + 2 + 2);
        bound("FOR x := 1 TO 10 DO RETURN; END_FOR; b := b;", 3 + 2);
        bound("FOR x := 1 TO 0 DO RETURN; END_FOR; b := b;", 3 + 1 + 2);
        // left by GO in the last time, as that takes longer than to go on
        bound("FOR x := 1 TO 10 DO IF b THEN b := b OR b OR b OR b; EXIT; END_IF; END_FOR;", 3 + 9 * 8 + 1 + 2 + 8 + 1);
        bound("FOR x := 1 TO 10 DO IF b THEN b := b; EXIT; END_IF; END_FOR;", 3 + 10 * 8 + 1);
        bound("FOR x := 1 TO 10 DO IF b THEN b := b OR b OR b OR b; RETURN; END_IF; END_FOR; b := b;", 3 + 9 * 8 + 1 + 2 + 8 + 1);
        bound("FOR x := 1 TO 10 DO FOR d := 1 TO 5 DO END_FOR; END_FOR;", 3 + 10 * (6 + 34) + 1);
        bound("FOR x := 1 TO 10 DO FOR d := 1 TO 5 DO EXIT; END_FOR; END_FOR;", 3 + 10 * (6 + 5) + 1);
        // behind the loop is where the UNLESS before it leads to
        bound("IF b THEN FOR x := 1 TO 2 DO END_FOR; END_IF; b := b;", 2 + 3 + 12 + 1 + 2);
        bound("IF b THEN FOR x := 1 TO 0 DO END_FOR; ELSE FOR x := 1 TO 9 DO EXIT; END_FOR; END_IF; b := b;", 2 + 5 + 2);
        bound("CASE x OF 1: x := 1; 2 .. 3: ELSE RETURN; END_CASE;", 2 + 4 + 8 + 1);
        String f = "FUNCTION f : INT VAR i : INT; END_VAR FOR i := 1 TO 10 DO END_FOR; END_FUNCTION ";
        Checks.due("with units that it begins", Checks.made(f + Checks.program(XB, "x := f();")).count(7), 1 + (4 + 64) + 2);
        String g = "FUNCTION_BLOCK g VAR t : TON; END_VAR t(IN := TRUE); END_FUNCTION_BLOCK ";
        Checks.due("with instances", Checks.made(g + Checks.program("y : g;", "y(); y();")).count(7), 8);
        Checks.due("of a ladder", Checks.made(Checks.program("b : BOOL;", "LADDER RUNG b (b); END_RUNG END_LADDER")).count(7), 6);
    }

    private static void greatBounds() {
        String million = "FOR d := 1 TO 1000000 DO ";
        // 994 instructions and 6 more each time: 3 + 999,999 * 1,000 + 1, and 996 behind
        String exact = "FOR d := 1 TO 999999 DO " + Checks.repeat("b:=b;", 497) + " END_FOR;" + Checks.repeat("b:=b;", 498);
        Checks.due("the greatest bound", Checks.made(Checks.program(XB, exact)).count(7), 1000000000);
        Checks.faulty(52, Checks.MARK + Checks.program(XB, exact + "RETURN;"));
        Checks.due("a great one", Checks.made(Checks.program(XB, million + "FOR x := 1 TO 164 DO END_FOR; IF b THEN b := b; END_IF; END_FOR;")).count(7), 998000004);
        Checks.faulty(52, Checks.MARK + Checks.program(XB, million + "FOR x := 1 TO 165 DO END_FOR; END_FOR;"));
        Checks.faulty(52, "\u00b6FUNCTION f : INT VAR d : DINT; x : INT; END_VAR " + million + "FOR x := 1 TO 165 DO END_FOR; END_FOR; END_FUNCTION PROGRAM p END_PROGRAM");
        Checks.faulty(52, "FUNCTION f : INT VAR x : INT; END_VAR FOR x := 1 TO 32767 DO END_FOR; END_FUNCTION "
            + Checks.MARK + Checks.program(XB, "FOR x := 1 TO 32767 DO d := f(); END_FOR;"));
        StringBuilder deep = new StringBuilder();
        StringBuilder names = new StringBuilder("z : INT; ");
        for (int i = 0; i < 59; i++) {
            deep.append("FOR v").append(i).append(" := 1 TO 1000000 DO ");
            names.append('v').append(i).append(" : DINT; ");
        }
        String loops = deep + Checks.repeat("END_FOR;", 59);
        Checks.faulty(52, Checks.MARK + Checks.program(names.toString(), loops));
        Checks.due("none of them", Checks.made(Checks.program(names.toString(), "FOR z := 1 TO 0 DO " + loops + " END_FOR;")).count(7), 4);
        int[] sizes = {8332, 8333};
        int[] due = {3 + 6 * 8332 + 1, 3 + 6 * 8333 + 1};
        for (int i = 0; i < 2; i++) {
            CodeMaker x = Checks.made(Checks.program(XB, "FOR x := 1 TO " + sizes[i] + " DO END_FOR;"));
            Checks.due("bound", x.count(7), due[i]);
            Checks.due("run", x.run(1), due[i] > 50000 ? CodeMaker.LONG : due[i]);
        }
    }

    private static void counting() {
        CodeMaker x = Checks.made("FUNCTION f : INT VAR v : INT; END_VAR f := 5; END_FUNCTION " + Checks.program(XB, "x := f(); x := x / x;"));
        int[] due = {0, -1, 2, 13, 965, 0, 0, 13};
        for (int which = 0; which < due.length; which++) {
            Checks.due("count(" + which + ")", x.count(which), due[which]);
        }
        Checks.due("count(8)", x.count(8), CodeMaker.NONE);
        Checks.due("count(-1)", x.count(-1), CodeMaker.NONE);
        Checks.due("count(least)", x.count(Integer.MIN_VALUE), CodeMaker.NONE);
        Checks.due("run", x.run(70), 13);
        Checks.due("steps", x.count(5), 13);
        Checks.due("NOW", x.count(6), 70);
        Checks.due("run that is NONE", x.run(-1), CodeMaker.NONE);
        Checks.due("steps stay", x.count(5), 13);
        Checks.due("NOW stays", x.count(6), 70);
        CodeMaker y = new CodeMaker();
        Checks.due("NONE before all", y.count(8), CodeMaker.NONE);
    }

    /** A text stays, and is made anew as if it were the first time. */
    private static void again() {
        CodeMaker x = Checks.made(Checks.program("x : INT := 5; a AT %IX3 : BOOL; t : TON;", "x := x + 1; t(IN := TRUE, PT := 10);"));
        x.run(10);
        x.run(10);
        Checks.due("x", x.get(960), 7);
        Checks.due("t.Q", x.get(963), 1);
        Checks.due("make again", x.make(), 0);
        Checks.due("x anew", x.get(960), 5);
        Checks.due("t.Q anew", x.get(963), 0);
        Checks.due("NOW anew", x.count(6), 0);
        Checks.due("steps anew", x.count(5), 0);
        Checks.feed(x, "PROGRAM p VAR x : foo; END_VAR END_PROGRAM");
        Checks.due("a fault", x.make(), 17);
        Checks.due("its place", x.count(1), 18);
        Checks.due("nothing at hand", x.get(960), 0);
        Checks.due("no cells", x.count(4), 0);
        Checks.due("clear", x.clear(), 42);
        Checks.due("it keeps the fault", x.count(0), 17);
        Checks.feed(x, "PROGRAM foo VAR x AT %IX3 : BOOL; END_VAR END_PROGRAM");
        Checks.due("fine again", x.make(), 0);
        Checks.due("no place", x.count(1), CodeMaker.NONE);
    }
}
