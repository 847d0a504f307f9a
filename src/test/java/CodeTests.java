/** Promises 5, 7 and 8: the code of all that there is, and how it is told. */
public final class CodeTests {
    private static final String ALL = "x : INT; d : DINT; b : BOOL; a : ARRAY [-1 .. 3] OF INT; t : TON; c : CTU; r : R_TRIG; y : INT;";
    // x 960, d 961, b 962, a 963 .. 967, t 968 .. 973, c 974 .. 979, r 980 .. 982, y 983, own cells from 984 on

    public static void main(String[] args) {
        expressions();
        functions();
        constants();
        ownFunctions();
        statements();
        loops();
        choices();
        ladders();
        instances();
        telling();
        Checks.finish("CodeTests");
    }

    private static void code(String body, String want) {
        Checks.code(Checks.program(ALL, body), want);
    }

    private static void expressions() {
        code("x := x + y * 2 - y;", "LOAD 960, LOAD 983, PUSH 2, TWO 2, TWO 0, LOAD 983, TWO 1, STORE 960");
        code("d := x / d MOD y;", "LOAD 960, LOAD 961, TWO 8, LOAD 983, TWO 9, STORE 961");
        code("x := x / y; x := x MOD y;", "LOAD 960, LOAD 983, TWO 3, STORE 960, LOAD 960, LOAD 983, TWO 4, STORE 960");
        code("d := d + 1 - 2 * d;", "LOAD 961, PUSH 1, TWO 5, PUSH 2, LOAD 961, TWO 7, TWO 6, STORE 961");
        code("b := b OR b XOR b AND x = y;",
            "LOAD 962, LOAD 962, LOAD 962, LOAD 960, LOAD 983, TWO 13, TWO 10, TWO 12, TWO 11, STORE 962");
        code("b := x < y = b;", "LOAD 960, LOAD 983, TWO 15, LOAD 962, TWO 13, STORE 962");
        code("x := (x - y) - (x - y);", "LOAD 960, LOAD 983, TWO 1, LOAD 960, LOAD 983, TWO 1, TWO 1, STORE 960");
        code("x := -x; d := -d; d := -x;", "LOAD 960, ONE 0, STORE 960, LOAD 961, ONE 1, STORE 961, LOAD 960, ONE 0, STORE 961");
        code("b := NOT b; x := NOT x; d := NOT d;", "LOAD 962, ONE 2, STORE 962, LOAD 960, ONE 3, STORE 960, LOAD 961, ONE 3, STORE 961");
        code("x := -x * y;", "LOAD 960, ONE 0, LOAD 983, TWO 2, STORE 960");
        code("x := a[x + 1];", "LOAD 960, PUSH 1, TWO 0, TAKE 963 -1 5, STORE 960");
        code("a[d] := a[0];", "LOAD 961, PUSH 0, TAKE 963 -1 5, PUT 963 -1 5");
        code("b := t.Q AND r.Q; d := t.ET + c.CV;", "LOAD 970, LOAD 981, TWO 10, STORE 962, LOAD 971, LOAD 978, TWO 5, STORE 961");
        code("x := x AND y; d := d OR x; b := b = b;", "LOAD 960, LOAD 983, TWO 10, STORE 960, LOAD 961, LOAD 960, TWO 11, STORE 961, LOAD 962, LOAD 962, TWO 13, STORE 962");
    }

    private static void functions() {
        code("x := ABS(x); d := ABS(d);", "LOAD 960, ONE 4, STORE 960, LOAD 961, ONE 5, STORE 961");
        code("x := MIN(x, y); d := MAX(d, x);", "LOAD 960, LOAD 983, TWO 23, STORE 960, LOAD 961, LOAD 960, TWO 24, STORE 961");
        code("x := LIMIT(1, x, y);", "PUSH 1, LOAD 960, TWO 24, LOAD 983, TWO 23, STORE 960");
        code("x := SEL(b, x, y);", "LOAD 962, LOAD 960, LOAD 983, CHOOSE, STORE 960");
        code("x := SHL(x, d); d := SHL(d, x);", "LOAD 960, LOAD 961, TWO 19, STORE 960, LOAD 961, LOAD 960, TWO 21, STORE 961");
        code("x := SHR(x, 1); d := SHR(d, 1);", "LOAD 960, PUSH 1, TWO 20, STORE 960, LOAD 961, PUSH 1, TWO 22, STORE 961");
        code("x := TO_INT(d); d := TO_DINT(b); b := TO_BOOL(d);", "LOAD 961, ONE 6, STORE 960, LOAD 962, STORE 961, LOAD 961, ONE 7, STORE 962");
    }

    private static void constant(String written, int means) {
        code("d := TO_DINT(" + written + ");", "PUSH " + means + ", STORE 961");
    }

    private static void constants() {
        code("b := TRUE; b := FALSE; b := NOT TRUE;", "PUSH 1, STORE 962, PUSH 0, STORE 962, PUSH 0, STORE 962");
        constant("30000 + 30000", -5536);
        constant("30000 + 40000", 70000);
        constant("2147483647 + 1", -2147483648);
        constant("-7 / 2", -3);
        constant("-7 MOD 2", -1);
        constant("7 MOD -2", 1);
        constant("-32768", -32768);
        constant("NOT 5", -6);
        constant("-(-32767 - 1)", -32768);
        constant("ABS(-32767 - 1)", -32768);
        constant("ABS(-40000)", 40000);
        constant("ABS(-2147483647 - 1)", -2147483648);
        constant("(-32767 - 1) / -1", -32768);
        constant("(-2147483647 - 1) / -1", -2147483648);
        constant("(-2147483647 - 1) MOD -1", 0);
        constant("SHL(1, 15)", -32768);
        constant("SHL(1, 16)", 0);
        constant("SHL(1, -1)", 0);
        constant("SHR(-1, 1)", 32767);
        constant("SHR(-1, 0)", -1);
        constant("SHR(-1, 16)", 0);
        constant("SHL(40000, 31)", 0);
        constant("SHL(TO_DINT(1), 31)", -2147483648);
        constant("SHL(TO_DINT(1), 32)", 0);
        constant("SHR(-40000, 31)", 1);
        constant("SHR(-40000, 0)", -40000);
        constant("SHR(-40000, 32)", 0);
        constant("SHR(-40000, 40000)", 0);
        constant("MIN(3, -4)", -4);
        constant("MAX(3, -4)", 3);
        constant("LIMIT(1, 9, 5)", 5);
        constant("LIMIT(5, 9, 1)", 1);
        constant("LIMIT(5, 1, 9)", 5);
        constant("SEL(FALSE, 10, 20)", 10);
        constant("SEL(TRUE, 10, 20)", 20);
        constant("TO_INT(70000)", 4464);
        constant("TO_INT(40000)", -25536);
        constant("TO_BOOL(-5)", 1);
        constant("TO_BOOL(0)", 0);
        constant("5 > 4 AND 1 <= 1", 1);
        constant("6 XOR 5 OR 8", 11);
        constant("200 * 200", -25536);
        constant("46341 * 46341", -2147479015);
        code("x := 1 / 0;", "PUSH 1, PUSH 0, TWO 3, STORE 960");
        code("d := 40000 MOD (5 - 5);", "PUSH 40000, PUSH 0, TWO 9, STORE 961");
        code("x := 1 / 0 + 2 * 3;", "PUSH 1, PUSH 0, TWO 3, PUSH 6, TWO 0, STORE 960");
        code("x := 0 / 1 + x;", "PUSH 0, LOAD 960, TWO 0, STORE 960");
        code("x := a[1 + 1] + (2 + 3);", "PUSH 2, TAKE 963 -1 5, PUSH 5, TWO 0, STORE 960");
        code("x := 1 + x + 1;", "PUSH 1, LOAD 960, TWO 0, PUSH 1, TWO 0, STORE 960");
    }

    private static void ownFunctions() {
        String f = "FUNCTION f : INT VAR u : INT := 7; END_VAR VAR_INPUT i : INT := 3; END_VAR VAR v, w : BOOL; END_VAR VAR_INPUT j : DINT; "
            + "END_VAR VAR z : BOOL := TRUE; END_VAR f := f + i; END_FUNCTION ";
        CodeMaker x = Checks.made(f + "FUNCTION g : BOOL LADDER END_LADDER END_FUNCTION " + Checks.program(ALL, "x := f(f(1, 2), d); b := g();"));
        Checks.due("FUNCTION", Checks.codeOf(x, 0), "PUSH 0, STORE 0, PUSH 7, STORE 1, PUSH 0, STORE 3, PUSH 0, STORE 4, PUSH 1, STORE 6, "
            + "LOAD 0, LOAD 2, TWO 0, STORE 0");
        Checks.due("FUNCTION with a LADDER", Checks.codeOf(x, 1), "PUSH 0, STORE 0");
        Checks.due("calls", Checks.codeOf(x, 2), "PUSH 1, PUSH 2, WRITE 0 5, WRITE 0 2, CALL 0, READ 0 0, LOAD 961, WRITE 0 5, WRITE 0 2, "
            + "CALL 0, READ 0 0, STORE 960, CALL 1, READ 1 0, STORE 962");
        Checks.due("cells", x.count(4), 984 + 7 + 157);
        Checks.due("a constant of the FUNCTION's", x.get(984 + 1), 7);
        Checks.due("an input's constant", x.get(984 + 2), 3);
        Checks.due("TRUE", x.get(984 + 6), 1);
    }

    private static void statements() {
        code(";;", "");
        code("RETURN; x := 1;", "LEAVE, PUSH 1, STORE 960");
        code("IF b THEN END_IF;", "LOAD 962, UNLESS 2");
        code("IF b THEN ELSE END_IF;", "LOAD 962, UNLESS 3, GO 3");
        code("IF b THEN x := 1; ELSIF x = 1 THEN x := 2; END_IF; x := 3;",
            "LOAD 962, UNLESS 5, PUSH 1, STORE 960, GO 11, LOAD 960, PUSH 1, TWO 13, UNLESS 11, PUSH 2, STORE 960, PUSH 3, STORE 960");
        code("IF b THEN IF b THEN x := 1; END_IF; ELSE x := 2; END_IF;",
            "LOAD 962, UNLESS 7, LOAD 962, UNLESS 6, PUSH 1, STORE 960, GO 9, PUSH 2, STORE 960");
        code("t(PT := 5, IN := b); t(); c(PV := x); r(CLK := t.Q);",
            "PUSH 5, STORE 969, LOAD 962, STORE 968, BLOCK 0 968, BLOCK 0 968, LOAD 960, STORE 976, BLOCK 3 974, LOAD 970, STORE 980, BLOCK 5 980");
        Checks.code(Checks.program("a : TON; b : TOF; c : TP; d : CTU; e : CTD; f : R_TRIG; g : F_TRIG; h : SR; i : RS; z : BOOL;",
            "a(); b(); c(); d(); e(LD := z, PV := 1, CD := z); f(); g(); h(S1 := z, R := z); i(S := z, R1 := z); z := h.Q1 OR i.Q1 OR d.Q;"),
            "BLOCK 0 960, BLOCK 1 966, BLOCK 2 972, BLOCK 3 978, LOAD 1002, STORE 985, PUSH 1, STORE 986, LOAD 1002, STORE 984, BLOCK 4 984, "
            + "BLOCK 5 990, BLOCK 6 993, LOAD 1002, STORE 996, LOAD 1002, STORE 997, BLOCK 7 996, LOAD 1002, STORE 999, LOAD 1002, STORE 1000, "
            + "BLOCK 8 999, LOAD 998, LOAD 1001, TWO 11, LOAD 981, TWO 11, STORE 1002");
    }

    private static void loops() {
        code("FOR x := 1 TO 10 BY 3 DO END_FOR;", "PUSH 1, STORE 960, COUNT 984 4, NEXT 984 9, LOAD 960, PUSH 3, TWO 0, STORE 960, BACK 3");
        code("FOR d := 5 TO -5 BY -2 DO END_FOR;", "PUSH 5, STORE 961, COUNT 984 6, NEXT 984 9, LOAD 961, PUSH -2, TWO 5, STORE 961, BACK 3");
        code("FOR x := 1 TO 0 DO END_FOR;", "PUSH 1, STORE 960, COUNT 984 0, NEXT 984 9, LOAD 960, PUSH 1, TWO 0, STORE 960, BACK 3");
        code("FOR x := 1 TO 1 BY -7 DO END_FOR;", "PUSH 1, STORE 960, COUNT 984 1, NEXT 984 9, LOAD 960, PUSH -7, TWO 0, STORE 960, BACK 3");
        code("FOR x := 1 TO 2 DO EXIT; FOR y := 1 TO 2 DO IF b THEN EXIT; END_IF; END_FOR; EXIT; END_FOR;",
            "PUSH 1, STORE 960, COUNT 984 2, NEXT 984 23, GO 23, PUSH 1, STORE 983, COUNT 985 2, NEXT 985 17, LOAD 962, UNLESS 12, GO 17, "
            + "LOAD 983, PUSH 1, TWO 0, STORE 983, BACK 8, GO 23, LOAD 960, PUSH 1, TWO 0, STORE 960, BACK 3");
        Checks.code(Checks.program("x : INT; q AT %QW5 : INT;", "FOR q := 1 TO 2 DO x := q; END_FOR;"),
            "PUSH 1, STORE 837, COUNT 961 2, NEXT 961 11, LOAD 837, STORE 960, LOAD 837, PUSH 1, TWO 0, STORE 837, BACK 3");
    }

    private static void choices() {
        code("CASE x OF END_CASE;", "LOAD 960, STORE 984");
        code("CASE x OF ELSE y := 1; END_CASE;", "LOAD 960, STORE 984, PUSH 1, STORE 983");
        code("CASE x + 1 OF 1: y := 1; -5 .. -2, 7, 8 .. 9: y := 2; ELSE y := 3; END_CASE;",
            "LOAD 960, PUSH 1, TWO 0, STORE 984, LOAD 984, PUSH 1, TWO 13, UNLESS 11, PUSH 1, STORE 983, GO 36, "
            + "LOAD 984, PUSH -5, TWO 18, LOAD 984, PUSH -2, TWO 17, TWO 10, LOAD 984, PUSH 7, TWO 13, TWO 11, "
            + "LOAD 984, PUSH 8, TWO 18, LOAD 984, PUSH 9, TWO 17, TWO 10, TWO 11, UNLESS 34, PUSH 2, STORE 983, GO 36, PUSH 3, STORE 983");
        code("CASE x OF 1: END_CASE;", "LOAD 960, STORE 984, LOAD 984, PUSH 1, TWO 13, UNLESS 6");
        // own cells: an outer one has its before an inner one
        code("FOR x := 1 TO 1 DO CASE y OF 1: FOR y := 1 TO 1 DO END_FOR; END_CASE; END_FOR; CASE y OF END_CASE;",
            "PUSH 1, STORE 960, COUNT 984 1, NEXT 984 24, LOAD 983, STORE 985, LOAD 985, PUSH 1, TWO 13, UNLESS 19, PUSH 1, STORE 983, "
            + "COUNT 986 1, NEXT 986 19, LOAD 983, PUSH 1, TWO 0, STORE 983, BACK 13, LOAD 960, PUSH 1, TWO 0, STORE 960, BACK 3, "
            + "LOAD 983, STORE 987");
    }

    private static void ladder(String rungs, String want) {
        Checks.code(Checks.program("a, b, c : BOOL; t : TON; q : BOOL;", "LADDER " + rungs + " END_LADDER"), want);
    }

    // a 960, b 961, c 962, t 963 .. 968, q 969, own cells from 970 on, then powers
    private static void ladders() {
        ladder("", "");
        ladder("RUNG (q); END_RUNG", "PUSH 1, STORE 969");
        ladder("RUNG (/q); END_RUNG", "PUSH 1, ONE 2, STORE 969");
        ladder("RUNG a; END_RUNG", "PUSH 1, LOAD 960, TWO 10, STORE 970");
        ladder("RUNG *; -; (+q); END_RUNG", "PUSH 0, STORE 970, PUSH 1, STORE 971, LOAD 969, PUSH 1, TWO 11, STORE 969");
        ladder("RUNG a /b (q); END_RUNG", "PUSH 1, LOAD 960, TWO 10, STORE 970, LOAD 970, LOAD 961, ONE 2, TWO 10, STORE 982, LOAD 982, STORE 969");
        ladder("RUNG t.Q (-q); END_RUNG", "PUSH 1, LOAD 965, TWO 10, STORE 970, LOAD 969, LOAD 970, ONE 2, TWO 10, STORE 969");
        ladder("RUNG >a <t.Q (q); END_RUNG",
            "PUSH 1, LOAD 960, LOAD 970, ONE 2, TWO 10, TWO 10, LOAD 960, STORE 970, STORE 972, "
            + "LOAD 972, LOAD 971, LOAD 965, ONE 2, TWO 10, TWO 10, LOAD 965, STORE 971, STORE 984, LOAD 984, STORE 969");
        ladder("RUNG a | (q); b | (+b); c -; END_RUNG",
            "PUSH 1, LOAD 960, TWO 10, PUSH 1, LOAD 961, TWO 10, TWO 11, PUSH 1, LOAD 962, TWO 10, TWO 11, STORE 970, "
            + "LOAD 970, STORE 984, LOAD 970, STORE 969, LOAD 961, LOAD 970, TWO 11, STORE 961");
        ladder("RUNG a - (q); * | b -; c * (/c); END_RUNG",
            "PUSH 1, LOAD 960, TWO 10, STORE 970, PUSH 1, LOAD 962, TWO 10, STORE 971, "
            + "LOAD 970, STORE 982, LOAD 971, LOAD 961, TWO 10, STORE 983, PUSH 0, STORE 984, LOAD 983, STORE 995, "
            + "LOAD 982, STORE 969, LOAD 984, ONE 2, STORE 962");
        ladder("RUNG * | -; * -; END_RUNG RUNG (q); END_RUNG", "PUSH 0, STORE 970, LOAD 970, STORE 982, LOAD 970, STORE 983, PUSH 1, STORE 969");
        // own cells of contacts are in the order of rows, their code is in the order of lines
        ladder("RUNG a >a; >b -; END_RUNG", "PUSH 1, LOAD 960, TWO 10, STORE 972, PUSH 1, LOAD 961, LOAD 971, ONE 2, TWO 10, TWO 10, LOAD 961, "
            + "STORE 971, STORE 973, LOAD 972, LOAD 960, LOAD 970, ONE 2, TWO 10, TWO 10, LOAD 960, STORE 970, STORE 984, LOAD 973, STORE 985");
        CodeMaker x = Checks.made(Checks.program("a : BOOL;", "LADDER RUNG >a <a /a; END_RUNG END_LADDER"));
        Checks.due("cells of a LADDER", x.count(4), 961 + 2 + 156);
    }

    private static void instances() {
        String g = "FUNCTION_BLOCK g VAR_OUTPUT o : INT := 4; END_VAR VAR t : TOF; END_VAR VAR_INPUT i : INT := 5; k : BOOL; END_VAR "
            + "t(IN := k); IF t.Q THEN o := i; END_IF; CASE i OF END_CASE; END_FUNCTION_BLOCK ";
        String h = "FUNCTION_BLOCK h VAR x : BOOL := TRUE; y, z : g; a : ARRAY [0 .. 1] OF DINT := -9; END_VAR z(i := y.o); END_FUNCTION_BLOCK ";
        CodeMaker x = Checks.made(g + h + Checks.program("q AT %MW1 : INT := 6; v : h; w : g;", "w(k := TRUE, i := 3); v();"));
        Checks.due("g", Checks.codeOf(x, 0), "LOAD 8, STORE 1, BLOCK 1 1, LOAD 3, UNLESS 7, LOAD 7, STORE 0, LOAD 7, STORE 9");
        Checks.due("h", Checks.codeOf(x, 1), "LOAD 1, STORE 18, ENTER 0 11");
        Checks.due("p", Checks.codeOf(x, 2), "PUSH 1, STORE 991, PUSH 3, STORE 990, ENTER 0 983, ENTER 1 960");
        Checks.due("cells", x.count(4), 960 + 23 + 10);
        int[] due = {1, 4, 0, 0, 0, 0, 0, 0, 5, 0, 0, 4, 0, 0, 0, 0, 0, 0, 5, 0, 0, -9, -9, 4, 0, 0, 0, 0, 0, 0, 5, 0, 0};
        for (int i = 0; i < due.length; i++) {
            Checks.due("cell " + (960 + i), x.get(960 + i), due[i]);
        }
        Checks.due("cell of %MW1", x.get(897), 6);
        Checks.due("run", x.run(0), 6 + 9 + 3 + 9 - 2);
        Checks.due("input that is told", x.get(990), 3);
        Checks.due("output", x.get(983), 3);
        Checks.due("output that was", x.get(971), 4);
        Checks.due("input from an output", x.get(978), 4);
    }

    private static void telling() {
        CodeMaker x = Checks.made("FUNCTION f : INT END_FUNCTION PROGRAM p VAR a : ARRAY [5 .. 6] OF INT; END_VAR a[5] := f(); END_PROGRAM");
        Checks.due("length(0)", x.length(0), 2);
        Checks.due("length(1)", x.length(1), 4);
        Checks.due("length(2)", x.length(2), CodeMaker.NONE);
        Checks.due("length(-1)", x.length(-1), CodeMaker.NONE);
        Checks.due("length(least)", x.length(Integer.MIN_VALUE), CodeMaker.NONE);
        Checks.due("length(most)", x.length(Integer.MAX_VALUE), CodeMaker.NONE);
        int[] put = {4, 960, 5, 2};
        for (int what = 0; what < 4; what++) {
            Checks.due("told(1, 3, " + what + ")", x.told(1, 3, what), put[what]);
        }
        int[][] none = {{1, 3, 4}, {1, 3, -1}, {1, 4, 0}, {1, -1, 0}, {2, 0, 0}, {-1, 0, 0}, {0, 2, 1}, {Integer.MAX_VALUE, 0, 0},
            {1, Integer.MAX_VALUE, 1}, {1, Integer.MIN_VALUE, 1}, {1, 3, Integer.MAX_VALUE}};
        for (int[] call : none) {
            Checks.due("told of none", x.told(call[0], call[1], call[2]), 0);
        }
    }
}
