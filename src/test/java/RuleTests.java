/** Promise 5: the rules, faults 10 to 44. */
public final class RuleTests {
    private static final String ALL = "x : INT; d : DINT; b : BOOL; a : ARRAY [0 .. 3] OF INT; e : ARRAY [0 .. 3] OF BOOL; t : TON;"
        + " c : CTU; r : R_TRIG; s : SR; i AT %IX0 : BOOL; w AT %IW0 : INT; q AT %QX0 : BOOL;";

    public static void main(String[] args) {
        blocks();
        declarations();
        typesOfDeclarations();
        cells();
        names();
        calls();
        operators();
        assigning();
        invocations();
        statements();
        loops();
        ladders();
        order();
        Checks.finish("RuleTests");
    }

    private static void faulty(int fault, String body) {
        Checks.faulty(fault, Checks.program(ALL, body));
    }

    private static void fine(String body) {
        Checks.fine(Checks.program(ALL, body));
    }

    private static void blocks() {
        Checks.faulty(10, "\u00b6FUNCTION f : INT END_FUNCTION");
        Checks.faulty(10, "\u00b6(* nothing *)");
        Checks.faulty(10, "PROGRAM p END_PROGRAM \u00b6PROGRAM q END_PROGRAM");
        Checks.faulty(10, "PROGRAM p END_PROGRAM \u00b6FUNCTION p : INT VAR_OUTPUT END_VAR END_FUNCTION");
        Checks.faulty(11, "\u00b6FUNCTION ton : INT END_FUNCTION PROGRAM p END_PROGRAM");
        Checks.faulty(11, "\u00b6FUNCTION_BLOCK To_Int END_FUNCTION_BLOCK PROGRAM p END_PROGRAM");
        Checks.faulty(11, "FUNCTION f : INT END_FUNCTION \u00b6PROGRAM f END_PROGRAM");
        Checks.fine("FUNCTION q : INT END_FUNCTION FUNCTION_BLOCK pt END_FUNCTION_BLOCK PROGRAM p END_PROGRAM");
    }

    private static void declarations() {
        Checks.faulty(12, Checks.program("x, \u00b6x : INT;", ""));
        Checks.faulty(12, Checks.program("x : INT; \u00b6x : BOOL;", ""));
        Checks.faulty(12, Checks.program("\u00b6p : INT;", ""));
        Checks.faulty(12, Checks.program("\u00b6sr : SR;", ""));
        Checks.faulty(12, Checks.program("\u00b6abs : INT;", ""));
        Checks.faulty(12, "FUNCTION f : INT VAR \u00b6f : INT; END_VAR END_FUNCTION PROGRAM p END_PROGRAM");
        Checks.faulty(12, "FUNCTION f : INT END_FUNCTION PROGRAM p VAR \u00b6f : INT; END_VAR END_PROGRAM");
        Checks.fine("FUNCTION f : INT VAR x : INT; END_VAR END_FUNCTION PROGRAM p VAR x, cv, in : INT; END_VAR END_PROGRAM");
        Checks.faulty(13, "PROGRAM p \u00b6VAR_INPUT x : INT; END_VAR END_PROGRAM");
        Checks.faulty(13, "PROGRAM p \u00b6VAR_OUTPUT END_VAR END_PROGRAM");
        Checks.faulty(13, "FUNCTION f : INT \u00b6VAR_OUTPUT x : INT; END_VAR END_FUNCTION PROGRAM p END_PROGRAM");
        Checks.faulty(43, "PROGRAM p VAR_INPUT \u00b6x : TON; END_VAR END_PROGRAM");
        Checks.faulty(14, "FUNCTION_BLOCK f VAR x AT \u00b6%IX0 : BOOL; END_VAR END_FUNCTION_BLOCK PROGRAM p END_PROGRAM");
        Checks.faulty(14, Checks.program("x, y AT \u00b6%IX0 : BOOL;", ""));
        Checks.faulty(14, Checks.program("x AT %IX7 : BOOL; y AT \u00b6%ix07 : BOOL;", ""));
        Checks.fine(Checks.program("x AT %IX7 : BOOL; y AT %QX7 : BOOL; z AT %IW7 : INT; v AT %QW7 : INT;", ""));
        Checks.faulty(15, Checks.program("\u00b6x AT %IX0 : INT;", ""));
        Checks.faulty(15, Checks.program("\u00b6x AT %MW0 : DINT;", ""));
        Checks.faulty(15, Checks.program("\u00b6x AT %MW0 : BOOL;", ""));
        Checks.faulty(15, Checks.program("\u00b6x AT %MX0 : ARRAY [0 .. 0] OF BOOL;", ""));
        Checks.faulty(15, Checks.program("\u00b6x AT %MX0 : TON := 5;", ""));
    }

    private static void typesOfDeclarations() {
        Checks.faulty(16, "FUNCTION f : INT VAR x : \u00b6ARRAY [0 .. 1] OF INT; END_VAR END_FUNCTION PROGRAM p END_PROGRAM");
        Checks.faulty(16, Checks.program("x : \u00b6ARRAY [TRUE .. 5] OF INT;", ""));
        Checks.faulty(16, Checks.program("x : \u00b6ARRAY [0 .. TRUE] OF INT;", ""));
        Checks.faulty(16, Checks.program("x : \u00b6ARRAY [1 .. 0] OF INT;", ""));
        Checks.faulty(16, Checks.program("x : \u00b6ARRAY [0 .. 256] OF INT;", ""));
        Checks.faulty(16, Checks.program("x : \u00b6ARRAY [-2147483647 .. 2147483647] OF INT;", ""));
        Checks.fine(Checks.program("x : ARRAY [-1 .. 254] OF INT; y : ARRAY [2147483647 .. 2147483647] OF BOOL;", ""));
        Checks.faulty(17, Checks.program("x : \u00b6foo;", ""));
        Checks.faulty(17, Checks.program("x : \u00b6abs;", ""));
        Checks.faulty(17, Checks.program("x : \u00b6p;", ""));
        Checks.faulty(17, "FUNCTION_BLOCK g VAR x : \u00b6g; END_VAR END_FUNCTION_BLOCK PROGRAM p END_PROGRAM");
        Checks.faulty(17, "FUNCTION f : INT END_FUNCTION PROGRAM p VAR x : \u00b6f; END_VAR END_PROGRAM");
        Checks.faulty(17, "FUNCTION f : INT VAR x : \u00b6TON; END_VAR END_FUNCTION PROGRAM p END_PROGRAM");
        Checks.faulty(43, "FUNCTION_BLOCK g VAR_INPUT \u00b6x : ARRAY [0 .. 1] OF INT; END_VAR END_FUNCTION_BLOCK PROGRAM p END_PROGRAM");
        Checks.faulty(43, "FUNCTION_BLOCK g VAR_OUTPUT \u00b6x : TON; END_VAR END_FUNCTION_BLOCK PROGRAM p END_PROGRAM");
        Checks.faulty(18, Checks.program("\u00b6x : TON := 5;", ""));
        Checks.faulty(18, Checks.program("\u00b6x AT %IX0 : BOOL := TRUE;", ""));
        Checks.faulty(18, Checks.program("\u00b6x AT %IW0 : INT := 0;", ""));
        Checks.fine(Checks.program("x AT %QX0 : BOOL := TRUE; y AT %QW0 : INT := 5; z AT %MX0 : BOOL := FALSE;", ""));
        Checks.faulty(18, Checks.program("\u00b6x : BOOL := 1;", ""));
        Checks.faulty(18, Checks.program("\u00b6x : INT := TRUE;", ""));
        Checks.faulty(18, Checks.program("\u00b6x : ARRAY [0 .. 1] OF BOOL := 1;", ""));
        Checks.faulty(18, Checks.program("\u00b6x : ARRAY [0 .. 1] OF DINT := FALSE;", ""));
        Checks.faulty(18, Checks.program("\u00b6x : INT := 32768;", ""));
        Checks.faulty(18, Checks.program("\u00b6x : INT := -32769;", ""));
        Checks.faulty(18, Checks.program("\u00b6x : ARRAY [0 .. 1] OF INT := -32769;", ""));
        Checks.fine(Checks.program("x : INT := -32768; y : INT := 32767; z : DINT := -2147483647;", ""));
    }

    /** A PROGRAM has 960 cells before its variables, a FUNCTION one. */
    private static void cells() {
        String twelve = "a, b, c, d, e, f, g, h, i, j, k, l : ARRAY [1 .. 256] OF INT;";
        Checks.fine(Checks.program(twelve + " z : ARRAY [1 .. 64] OF INT;", "LADDER END_LADDER"));
        Checks.faulty(19, Checks.program(twelve + " \u00b6z : ARRAY [1 .. 65] OF INT;", ""));
        Checks.faulty(19, Checks.program(twelve + " z : ARRAY [1 .. 64] OF INT; \u00b6y : BOOL;", ""));
        Checks.fine(Checks.program(twelve + " z : ARRAY [1 .. 64] OF INT; y AT %MX0 : BOOL;", ""));
        String sixteen = "a, b, c, d, e, f, g, h, i, j, k, l, m, n, o, q : ARRAY [1 .. 256] OF INT;";
        Checks.fine("FUNCTION_BLOCK big VAR " + sixteen + " END_VAR END_FUNCTION_BLOCK PROGRAM p END_PROGRAM");
        Checks.faulty(19, "FUNCTION_BLOCK big VAR " + sixteen + " \u00b6y : BOOL; END_VAR END_FUNCTION_BLOCK PROGRAM p END_PROGRAM");
        Checks.faulty(19, "FUNCTION_BLOCK big VAR " + sixteen + " END_VAR END_FUNCTION_BLOCK " + Checks.program("\u00b6y : big;", ""));
        String block = "FUNCTION_BLOCK some VAR " + twelve + " END_VAR END_FUNCTION_BLOCK ";
        Checks.due("cells of an instance", Checks.made(block + Checks.program("y : some; x : BOOL;", "")).count(4), 960 + 3072 + 1);
        Checks.faulty(19, block + Checks.program("x : BOOL; \u00b6y, z : some;", ""));
        StringBuilder ladders = new StringBuilder();
        for (int i = 0; i < 26; i++) {
            ladders.append("FUNCTION g").append(i).append(":INT LADDER END_LADDER END_FUNCTION ");
        }
        // A FUNCTION with a LADDER has 157 cells, 26 of them have 4,082; so the
        // PROGRAM may have 4,110: 4,096 and 14 for loops. (27 blocks are too many.)
        String last = twelve + " z : ARRAY [1 .. 63] OF INT; x : INT;";
        String loops = Checks.repeat("FOR x:=1 TO 1 DO END_FOR;", 14);
        Checks.faulty(50, Checks.MARK + ladders.toString() + Checks.program(last, loops));
        Checks.faulty(42, Checks.MARK + ladders.toString() + Checks.program(last, loops + "CASE x OF END_CASE;"));
    }

    private static void names() {
        faulty(20, "x := \u00b6y;");
        faulty(20, "\u00b6y := x;");
        faulty(20, "x := \u00b6y[1];");
        faulty(20, "b := \u00b6y.Q;");
        faulty(20, "\u00b6y(IN := b);");
        faulty(20, "\u00b6FOR y := 1 TO 2 DO END_FOR;");
        faulty(20, "x := \u00b6p;");
        faulty(21, "x := \u00b6a;");
        faulty(21, "b := \u00b6t;");
        faulty(21, "\u00b6a := 1;");
        faulty(21, "x := \u00b6x[1];");
        faulty(21, "\u00b6t[1] := 1;");
        faulty(21, "b := \u00b6a.Q;");
        faulty(21, "\u00b6x();");
        faulty(21, "\u00b6FOR a := 1 TO 2 DO END_FOR;");
        faulty(22, "x := \u00b6a[b];");
        faulty(22, "\u00b6a[b] := 1;");
        fine("a[d] := a[a[x]];");
        faulty(23, "b := \u00b6t.IN;");
        faulty(23, "b := \u00b6t.x;");
        fine("b := t.Q; d := t.ET; x := c.CV; b := c.Q OR r.Q OR s.Q1;");
        faulty(31, "x \u00b6:= t.ET;");
        Checks.faulty(20, "FUNCTION f : INT VAR y : INT; END_VAR END_FUNCTION PROGRAM p VAR x : INT; END_VAR x := \u00b6y; END_PROGRAM");
        Checks.faulty(23, "FUNCTION_BLOCK g VAR_INPUT i : INT; END_VAR VAR v : INT; END_VAR VAR_OUTPUT o : INT; END_VAR END_FUNCTION_BLOCK "
            + Checks.program("y : g; x : INT;", "x := y.o; x := \u00b6y.v;"));
        Checks.faulty(32, "FUNCTION_BLOCK g VAR_INPUT i : INT; END_VAR VAR v : INT; END_VAR VAR_OUTPUT o : INT; END_VAR END_FUNCTION_BLOCK "
            + Checks.program("y : g;", "y(i := 5, \u00b6o := 5);"));
    }

    private static void calls() {
        faulty(24, "x := \u00b6foo();");
        faulty(24, "x := \u00b6x(1);");
        faulty(24, "x := \u00b6TON(1);");
        Checks.faulty(24, "FUNCTION f : INT f := \u00b6f(); END_FUNCTION PROGRAM p END_PROGRAM");
        Checks.faulty(24, "FUNCTION_BLOCK g END_FUNCTION_BLOCK " + Checks.program(ALL, "x := \u00b6g();"));
        faulty(25, "x := \u00b6ABS();");
        faulty(25, "x := \u00b6ABS(1, 2);");
        faulty(25, "x := \u00b6MIN(b);");
        faulty(25, "x := \u00b6LIMIT(1, 2);");
        faulty(25, "x := \u00b6SEL(b, 1);");
        faulty(25, "x := \u00b6TO_INT(1, 2);");
        String f = "FUNCTION f : INT VAR_INPUT i : INT; END_VAR VAR v : INT; END_VAR VAR_INPUT j : DINT; k : BOOL; END_VAR END_FUNCTION ";
        Checks.faulty(25, f + Checks.program(ALL, "x := \u00b6f(1, 2);"));
        Checks.fine(f + Checks.program(ALL, "x := f(1, 2, b); d := f(x, d, TRUE);"));
        Checks.faulty(26, f + Checks.program(ALL, "x := \u00b6f(d, d, b);"));
        Checks.faulty(26, f + Checks.program(ALL, "x := \u00b6f(1, 2, 3);"));
        Checks.faulty(26, f + Checks.program(ALL, "x := \u00b6f(40000, 2, b);"));
        faulty(26, "x := \u00b6ABS(b);");
        faulty(26, "x := \u00b6MIN(1, b);");
        faulty(26, "x := \u00b6MAX(b, 1);");
        faulty(26, "x := \u00b6LIMIT(1, 2, b);");
        faulty(26, "x := \u00b6SHL(b, 1);");
        faulty(26, "x := \u00b6SHR(1, b);");
        faulty(26, "x := \u00b6SEL(1, 1, 1);");
        faulty(26, "x := \u00b6SEL(b, 1, b);");
        faulty(26, "b := \u00b6TO_BOOL(b);");
        faulty(31, "x \u00b6:= MIN(x, d);");
        faulty(31, "x \u00b6:= LIMIT(x, x, d);");
        faulty(31, "x \u00b6:= SEL(b, d, x);");
        faulty(31, "x \u00b6:= SHL(d, x);");
        faulty(31, "x \u00b6:= TO_DINT(x);");
        faulty(31, "x \u00b6:= TO_BOOL(x);");
        fine("x := SHL(x, d); x := TO_INT(d); x := TO_INT(b); d := TO_DINT(b); b := TO_BOOL(d); b := SEL(b, b, b); d := ABS(x);");
    }

    private static void operators() {
        faulty(27, "b := b \u00b6AND x;");
        faulty(27, "b := x \u00b6= b;");
        faulty(27, "b := b \u00b6< b;");
        faulty(27, "b := b \u00b6+ b;");
        faulty(27, "x := 1 \u00b6MOD TRUE;");
        faulty(31, "b \u00b6:= x AND x;");
        faulty(31, "x \u00b6:= x OR d;");
        faulty(31, "x \u00b6:= x + d;");
        faulty(31, "x \u00b6:= x < x;");
        fine("b := b = b; b := b <> b; b := x = d; x := x XOR x; d := d AND x; b := d >= x; x := x MOD x;");
        faulty(28, "x := \u00b6-b;");
        faulty(31, "x \u00b6:= -d;");
        fine("x := -x; d := -x; b := NOT b; x := NOT x; d := NOT d;");
        faulty(31, "x \u00b6:= 32768;");
        fine("x := 32767; d := 32768;");
        faulty(27, "b := NOT b \u00b6= x;");
    }

    private static void assigning() {
        faulty(29, "i \u00b6:= b;");
        faulty(29, "w \u00b6:= b;");
        fine("q := b;");
        Checks.faulty(29, "FUNCTION f : INT VAR_INPUT y : INT; END_VAR y \u00b6:= 1; END_FUNCTION PROGRAM p END_PROGRAM");
        Checks.faulty(29, "FUNCTION_BLOCK g VAR_INPUT y : INT; END_VAR VAR_OUTPUT z : INT; END_VAR z := 1; y \u00b6:= TRUE; END_FUNCTION_BLOCK PROGRAM p END_PROGRAM");
        faulty(30, "FOR x := 1 TO 2 DO IF b THEN x \u00b6:= b; END_IF; END_FOR;");
        faulty(30, "FOR b := 1 TO 2 DO b \u00b6:= TRUE; END_FOR;");
        fine("FOR x := 1 TO 2 DO END_FOR; x := 1; FOR x := 1 TO 2 DO END_FOR;");
        faulty(31, "x \u00b6:= b;");
        faulty(31, "b \u00b6:= 1;");
        faulty(31, "a[0] \u00b6:= d;");
        faulty(31, "e[0] \u00b6:= 1;");
        fine("d := x; e[0] := b;");
    }

    private static void invocations() {
        faulty(32, "t(\u00b6Q := b);");
        faulty(32, "t(\u00b6foo := b);");
        faulty(33, "t(IN := b, PT := 5, \u00b6in := x);");
        faulty(31, "t(\u00b6IN := x);");
        faulty(31, "c(\u00b6PV := d);");
        fine("t(PT := x, IN := b); t(); c(PV := x); s(R := b);");
        // nothing is asked of the parameters then, but of what is in them
        faulty(20, "\u00b6y(foo := x, foo := b);");
        faulty(21, "\u00b6x(foo := x);");
        faulty(27, "y(foo := x \u00b6+ b);");
    }

    private static void statements() {
        faulty(34, "\u00b6IF x THEN END_IF;");
        faulty(34, "\u00b6IF b THEN ELSIF 1 THEN END_IF;");
        faulty(31, "IF x THEN x \u00b6:= b; END_IF;");
        faulty(34, "\u00b6CASE b OF END_CASE;");
        faulty(34, "\u00b6CASE TRUE OF 1: END_CASE;");
        faulty(35, "CASE x OF \u00b6TRUE: END_CASE;");
        faulty(35, "CASE x OF 1, \u00b61 .. FALSE: END_CASE;");
        faulty(35, "CASE x OF \u00b6-1 .. -2: END_CASE;");
        fine("CASE x OF -2 .. -1, 5 .. 5: 40000 .. 2147483647: 1: ELSE END_CASE; CASE d OF ELSE END_CASE;");
        faulty(37, "\u00b6EXIT;");
        faulty(37, "FOR x := 1 TO 2 DO END_FOR; IF b THEN \u00b6EXIT; END_IF;");
        fine("FOR x := 1 TO 2 DO CASE x OF 1: IF b THEN EXIT; END_IF; END_CASE; END_FOR; RETURN;");
    }

    private static void loops() {
        faulty(22, "\u00b6FOR b := 1 TO 2 DO END_FOR;");
        faulty(29, "\u00b6FOR w := 1 TO 2 DO END_FOR;");
        faulty(22, "\u00b6FOR i := 1 TO 2 DO END_FOR;");
        Checks.faulty(29, "FUNCTION f : INT VAR_INPUT y : INT; END_VAR \u00b6FOR y := TRUE TO 2 DO END_FOR; END_FUNCTION PROGRAM p END_PROGRAM");
        faulty(30, "FOR x := 1 TO 2 DO FOR d := 1 TO 2 DO \u00b6FOR x := TRUE TO 2 DO END_FOR; END_FOR; END_FOR;");
        faulty(36, "\u00b6FOR x := TRUE TO 2 DO END_FOR;");
        faulty(36, "\u00b6FOR x := 1 TO FALSE DO END_FOR;");
        faulty(36, "\u00b6FOR x := 1 TO 2 BY TRUE DO END_FOR;");
        faulty(36, "\u00b6FOR x := 1 TO 32768 DO END_FOR;");
        faulty(36, "\u00b6FOR x := -32769 TO 1 DO END_FOR;");
        faulty(36, "\u00b6FOR x := 1 TO 2 BY 32768 DO END_FOR;");
        faulty(36, "\u00b6FOR x := 1 TO 2 BY 0 DO END_FOR;");
        faulty(36, "\u00b6FOR d := 1 TO 1000001 DO END_FOR;");
        faulty(36, "\u00b6FOR d := 0 TO -1000000 BY -1 DO END_FOR;");
        faulty(36, "\u00b6FOR d := -2147483647 TO 2147483647 BY 4294 DO END_FOR;");
        fine("FOR d := 1 TO 1000000 DO END_FOR; FOR d := 2147483647 TO -2147483647 DO END_FOR; FOR x := -32768 TO 32767 DO END_FOR;");
        fine("FOR d := -2147483647 TO 2147483647 BY 4295 DO END_FOR;");
        fine("FOR x := 1 TO 2 DO FOR d := 1 TO 2 DO b := b; END_FOR; END_FOR;");
    }

    private static void rung(int fault, String rows) {
        faulty(fault, "LADDER RUNG " + rows + " END_RUNG END_LADDER");
    }

    private static void ladders() {
        fine("LADDER RUNG " + Checks.repeat(Checks.repeat("- ", 11) + "(b) ; ", 12) + "END_RUNG END_LADDER");
        faulty(38, "LADDER RUNG b; END_RUNG \u00b6RUNG " + Checks.repeat("- ; ", 13) + "END_RUNG END_LADDER");
        faulty(38, "LADDER \u00b6RUNG " + Checks.repeat("- ", 13) + "; END_RUNG END_LADDER");
        faulty(38, "LADDER \u00b6RUNG - - ; - ; END_RUNG END_LADDER");
        fine("LADDER RUNG " + Checks.repeat("- | ", 11) + "- ; " + Checks.repeat("- ", 12) + "; END_RUNG END_LADDER");
        rung(39, "- \u00b6(b) - ;");
        rung(39, "\u00b6(x) - ;");
        rung(40, "- - ; - \u00b6| - ;");
        rung(41, "- \u00b6(x) ;");
        rung(41, "\u00b6x ;");
        rung(41, "\u00b6/t.ET ;");
        rung(20, "/\u00b6y ;");
        rung(20, "(/\u00b6y) ;");
        rung(21, "\u00b6t ;");
        rung(21, "(\u00b6t) ;");
        rung(23, "<\u00b6t.IN ;");
        rung(29, "\u00b6(i) ;");
        Checks.faulty(29, "FUNCTION f : INT VAR_INPUT y : BOOL; END_VAR LADDER RUNG - \u00b6(+y) ; END_RUNG END_LADDER END_FUNCTION PROGRAM p END_PROGRAM");
        Checks.fine("FUNCTION f : INT VAR_INPUT a, b, c, d, e, g, h, i : INT; END_VAR END_FUNCTION PROGRAM p END_PROGRAM");
        Checks.faulty(44, "\u00b6FUNCTION f : INT VAR_INPUT a, b, c, d, e, g, h, i : INT; END_VAR VAR_INPUT j : BOOL; END_VAR END_FUNCTION PROGRAM p END_PROGRAM");
        Checks.fine("FUNCTION_BLOCK f VAR_INPUT a, b, c, d, e, g, h, i, j : INT; END_VAR END_FUNCTION_BLOCK PROGRAM p END_PROGRAM");
    }

    /** Each node behind its children, otherwise in their order; of its rules the first. */
    private static void order() {
        faulty(20, "IF x THEN x := \u00b6y; END_IF;");
        faulty(20, "FOR y := 1 TO 2 DO x := \u00b6z; END_FOR;");
        faulty(21, "\u00b6x[b] := y;");
        faulty(20, "x := \u00b6y + (b + 1);");
        faulty(27, "x := (b \u00b6+ 1) + y;");
        faulty(29, "i \u00b6:= 1;");
        faulty(24, "x := \u00b6foo(1, b);");
        faulty(28, "x := foo(1, \u00b6-b);");
        Checks.faulty(15, "PROGRAM p VAR_INPUT \u00b6x AT %IX0 : INT := TRUE; END_VAR END_PROGRAM");
        Checks.faulty(20, "FUNCTION f : INT VAR_INPUT a, b, c, d, e, g, h, i, j : INT; END_VAR f := \u00b6y; END_FUNCTION PROGRAM p END_PROGRAM");
        Checks.faulty(11, "\u00b6FUNCTION abs : INT VAR_OUTPUT END_VAR END_FUNCTION PROGRAM p END_PROGRAM");
        // all of reading comes before all rules
        Checks.faulty(6, "FUNCTION abs : INT END_FUNCTION PROGRAM p \u00b6");
    }
}
