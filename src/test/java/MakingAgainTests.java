import java.util.Arrays;

/**
 * Promise 5 on an object that made something before: what is made of a text
 * depends on the text alone. Each text is made behind each other one, and held
 * against what a new object makes of it.
 */
public final class MakingAgainTests {
    private static final String F = "FUNCTION f : INT VAR_INPUT i : INT := 4; END_VAR VAR v : INT := 5; END_VAR v := v + i; f := f + v; END_FUNCTION ";
    private static final String G = "FUNCTION_BLOCK g VAR_INPUT i : INT := 6; END_VAR VAR_OUTPUT o : INT := 7; END_VAR o := o + i; END_FUNCTION_BLOCK ";
    private static final String H = "FUNCTION h : BOOL VAR_INPUT x : BOOL; END_VAR IF x THEN RETURN; END_IF; h := TRUE; END_FUNCTION ";
    private static final String[] TEXTS = {
        "", "PROGRAM p END_PROGRAM", "(*", "PROGRAM p ; ) END_PROGRAM", "PROGRAM abs END_PROGRAM",
        Checks.program("x : INT := 3;", "x := x + 1;"),
        Checks.program("b : BOOL := TRUE;", "b := TRUE; b := b = FALSE;"),
        Checks.program("d : DINT := 40000; x : INT;", "d := d * 3; x := TO_INT(d);"),
        Checks.program("a AT %IX0 : BOOL; q AT %QX255 : BOOL := TRUE; m AT %MW63 : INT := 9;", "q := NOT a; m := m - 1;"),
        Checks.program("x : INT; a : ARRAY [1 .. 5] OF INT := 8;", "x := x + 1; a[x] := a[1] + x;"),
        Checks.program("x, y : INT;", "FOR x := 1 TO 9 DO IF x > 4 THEN EXIT; END_IF; FOR y := 1 TO 3 DO END_FOR; END_FOR; RETURN;"),
        Checks.program("x, y : INT;", "CASE x OF 0: y := 1; 1 .. 3, 5: y := 2; ELSE y := 3; END_CASE; x := x + 1;"),
        Checks.program("t : TON; c : CTU; b : BOOL;", "b := NOT b; t(IN := TRUE, PT := 5); c(CU := b, PV := 2);"),
        Checks.program("a, b : BOOL;", "LADDER RUNG - | >a (b); - - -; END_RUNG RUNG - <b (/a); - - *; END_RUNG END_LADDER"),
        Checks.program("a, b : BOOL;", "LADDER RUNG - - (b); - - -; END_RUNG END_LADDER"),
        F + Checks.program("x : INT := 2;", "x := f(x) * 2;"),
        F + G + Checks.program("k, l : g; x : INT;", "k(i := f(1)); l(); x := k.o + l.o;"),
        G + F + H + Checks.program("b : BOOL; x : INT := 11; k : g;", "b := h(b); x := f(x); k(i := x);"),
        H + F + Checks.program("b : BOOL := TRUE; x : INT := 12;", "b := h(b); x := f(x) / x;"),
        H + Checks.program("x : INT := 13; b : BOOL;", "b := h(TRUE) OR b; x := 10 / (x - 13);"),
        F + Checks.program("x : INT;", "x := f(f(1) + f(2) * (f(3) - f(4) / x));"),
        "PROGRAM p " + "IF b THEN ".repeat(61), "PROGRAM p " + "t(a := f(".repeat(31) + "x",
        "PROGRAM p VAR x : INT; END_VAR x := " + "(".repeat(61) + "x",
        "PROGRAM p VAR x : INT; END_VAR x := " + "(".repeat(60) + "x" + ")".repeat(60) + "; END_PROGRAM",
        "PROGRAM p VAR b : BOOL; END_VAR " + "IF b THEN ".repeat(60) + "x := 1;" + "END_IF;".repeat(60) + " END_PROGRAM",
        Checks.program("x : INT; b : BOOL;", "IF b THEN FOR x := 1 TO 2 DO x := 1; END_FOR; END_IF;"),
        Checks.program("x : INT; x : INT;", ""), Checks.program("a AT %IX0 : BOOL; b AT %IX0 : BOOL;", ""),
        Checks.program("d : DINT; x : INT;", "FOR d := 1 TO 1000000 DO FOR x := 1 TO 200 DO END_FOR; END_FOR;"),
        Checks.program("d : DINT;", "FOR d := 1 TO 9000 DO END_FOR;"),
        Checks.program("p1 : foo;", ""), F + F, Checks.program("b : BOOL;", "LADDER RUNG (b) b; END_RUNG END_LADDER"),
    };

    public static void main(String[] args) {
        Checks.says("Code is made of the text, which stays: 0, and it is at hand then;");
        String[] due = new String[TEXTS.length];
        for (int i = 0; i < TEXTS.length; i++) {
            due[i] = allOf(new CodeMaker(), TEXTS[i]);
        }
        for (int before = 0; before < TEXTS.length; before++) {
            for (int i = 0; i < TEXTS.length; i++) {
                CodeMaker maker = new CodeMaker();
                Checks.feed(maker, TEXTS[before]);
                maker.make();
                maker.run(3);
                maker.run(4);
                Checks.due("behind " + TEXTS[before] + " this text: " + TEXTS[i], allOf(maker, TEXTS[i]), due[i]);
            }
        }
        manyTimes();
        Checks.finish("MakingAgainTests");
    }

    /** All that can be told of a text, in one row. */
    private static String allOf(CodeMaker maker, String text) {
        Checks.feed(maker, text);
        StringBuilder told = new StringBuilder();
        told.append(maker.make());
        for (int which = 0; which <= 8; which++) {
            told.append(' ').append(maker.count(which));
        }
        for (int unit = 0; unit < maker.count(2); unit++) {
            told.append(" unit ").append(maker.length(unit)).append(' ').append(Checks.codeOf(maker, unit));
        }
        told.append(" runs ").append(cells(maker));
        for (int run = 0; run < 3; run++) {
            told.append(' ').append(maker.run(5)).append(' ').append(maker.count(5)).append(' ').append(maker.count(6)).append(' ').append(cells(maker));
        }
        return told.toString();
    }

    private static String cells(CodeMaker maker) {
        int[] cells = new int[Math.min(30, Math.max(0, maker.count(4) - 960))];
        for (int i = 0; i < cells.length; i++) {
            cells[i] = maker.get(960 + i);
        }
        return maker.get(0) + " " + maker.get(511) + " " + maker.get(959) + " " + Arrays.toString(cells);
    }

    /** What a make() leaves does not pile up. */
    private static void manyTimes() {
        StringBuilder names = new StringBuilder("a0");
        for (int i = 1; i < 1500; i++) {
            names.append(",a").append(i);
        }
        CodeMaker maker = new CodeMaker();
        Checks.feed(maker, "PROGRAM p VAR " + names + " : INT; END_VAR a0 := a1499; END_PROGRAM");
        for (int i = 0; i < 40; i++) {
            Checks.due("make() again", maker.make(), 0);
            Checks.due("instructions", maker.count(3), 2);
            Checks.due("cells", maker.count(4), 960 + 1500);
            Checks.due("the last name's cell", maker.told(0, 0, 1), 960 + 1499);
        }
        CodeMaker full = new CodeMaker();
        Checks.feed(full, Checks.program("b : BOOL;", "b:=b;".repeat(1500)));
        for (int i = 0; i < 40; i++) {
            Checks.due("make() again", full.make(), 0);
            Checks.due("instructions", full.count(3), 3000);
            Checks.due("a run", full.run(0), 3000);
        }
    }
}
