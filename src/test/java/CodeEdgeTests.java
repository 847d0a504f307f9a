import java.util.Arrays;

/** Each sentence of 'CELLS' and 'CODE' that names an edge, with a test of its own. */
public final class CodeEdgeTests {
    private static final String ALL = "x : INT; d : DINT; b : BOOL; y : INT; a : ARRAY [-1 .. 3] OF INT;";
    // x 960, d 961, b 962, y 963, a 964 .. 968, own cells from 969 on
    private static final String LOOP_END = "LOAD 960, PUSH 1, TWO 0, STORE 960";

    public static void main(String[] args) {
        placeCells();
        sizes();
        ownCells();
        placesOfFunctions();
        ports();
        constants();
        foldedNumbers();
        dividedByZero();
        widths();
        functions();
        ifs();
        cases();
        loops();
        exits();
        returns();
        functionBeginnings();
        inputsNotTold();
        calls();
        groups();
        powers();
        fullRung();
        coils();
        Checks.finish("CodeEdgeTests");
    }

    private static void code(String statements, String want) {
        Checks.code(Checks.program(ALL, statements), want);
    }

    private static void placeCells() {
        Checks.says("of a PROGRAM first 960: 256 IX, 256 QX, 256 MX, 64 IW, 64 QW, 64 MW, in this order, and variables with 7 are these;");
        String[] areas = {"IX", "QX", "MX", "IW", "QW", "MW"};
        int[] first = {0, 256, 512, 768, 832, 896};
        int[] last = {255, 511, 767, 831, 895, 959};
        for (int i = 0; i < areas.length; i++) {
            String type = i < 3 ? "BOOL" : "INT";
            Checks.code(Checks.program("v AT %" + areas[i] + "0 : " + type + "; u : " + type + "; w AT %" + areas[i] + (i < 3 ? 255 : 63) + " : " + type + "; z : " + type + ";", "u := v; z := w;"),
                "LOAD " + first[i] + ", STORE 960, LOAD " + last[i] + ", STORE 961");
        }
        Checks.due("no variables", Checks.made("PROGRAM p END_PROGRAM").count(4), 960);
        CodeMaker first0 = Checks.made(Checks.program("v AT %IX0 : BOOL; u AT %QX0 : BOOL;", "u := v;"));
        first0.set(0, 7);
        first0.run(0);
        Checks.due("the first cell is read", first0.get(256), 7);
    }

    private static void sizes() {
        Checks.says("a simple one has 1, an array one for each element, an instance as many as its block (TON to CTD 6, R_TRIG to RS 3).");
        String[] types = {"BOOL", "INT", "DINT", "ARRAY [7 .. 7] OF BOOL", "ARRAY [-128 .. 127] OF DINT", "TON", "TOF", "TP", "CTU", "CTD", "R_TRIG", "F_TRIG", "SR", "RS"};
        int[] cells = {1, 1, 1, 1, 256, 6, 6, 6, 6, 6, 3, 3, 3, 3};
        for (int i = 0; i < types.length; i++) {
            Checks.due("cells of " + types[i], Checks.made(Checks.program("v : " + types[i] + ";", "")).count(4), 960 + cells[i]);
            Checks.due("cells of two", Checks.made(Checks.program("v, u : " + types[i] + ";", "")).count(4), 960 + 2 * cells[i]);
            Checks.due("of a block with one", Checks.made("FUNCTION_BLOCK g VAR v : " + types[i] + "; END_VAR END_FUNCTION_BLOCK " + Checks.program("k : g;", "")).count(4), 960 + cells[i]);
        }
        Checks.due("of an empty block", Checks.made("FUNCTION_BLOCK g END_FUNCTION_BLOCK " + Checks.program("k, l : g;", "k();")).count(4), 960);
    }

    private static void ownCells() {
        Checks.says("Then 1 for each 16 and 19 in their order, then 1 for each 25 of value 2 and 3 in their order, then 156, if the body is a LADDER.");
        Checks.due("none", Checks.made(Checks.program("x : INT;", "x := 1;")).count(4), 961);
        Checks.due("a LADDER without rungs", Checks.made(Checks.program("", "LADDER END_LADDER")).count(4), 960 + 156);
        Checks.due("contacts without own cells", Checks.made(Checks.program("b : BOOL;", "LADDER RUNG b /b - * (b); END_RUNG END_LADDER")).count(4), 961 + 156);
        Checks.due("contacts with own cells", Checks.made(Checks.program("b : BOOL;", "LADDER RUNG >b <b >b; END_RUNG RUNG <b; END_RUNG END_LADDER")).count(4), 961 + 4 + 156);
        Checks.due("of a FUNCTION", Checks.made("FUNCTION f : BOOL LADDER RUNG >f; END_RUNG END_LADDER END_FUNCTION PROGRAM p END_PROGRAM").count(4), 960 + 1 + 1 + 156);
        code("CASE x OF 1: FOR y := 1 TO 1 DO END_FOR; ELSE CASE x OF END_CASE; END_CASE; FOR x := 1 TO 1 DO END_FOR;",
            "LOAD 960, STORE 969, LOAD 969, PUSH 1, TWO 13, UNLESS 16, PUSH 1, STORE 963, COUNT 970 1, NEXT 970 15, LOAD 963, PUSH 1, TWO 0, STORE 963, BACK 9, GO 18, "
            + "LOAD 960, STORE 971, PUSH 1, STORE 960, COUNT 972 1, NEXT 972 27, " + LOOP_END + ", BACK 21");
    }

    private static void placesOfFunctions() {
        Checks.says("A FUNCTION has a PLACE: behind the PROGRAM's cells, one FUNCTION behind the other.");
        CodeMaker x = Checks.made("FUNCTION f : INT VAR_INPUT i : INT := 11; END_VAR VAR u : INT := 12; END_VAR f := i; END_FUNCTION FUNCTION_BLOCK g VAR v : INT := 13; END_VAR END_FUNCTION_BLOCK "
            + "FUNCTION h : INT VAR_INPUT i : INT := 14; END_VAR h := f(i) + 1; END_FUNCTION " + Checks.program("x : INT := 15; k : g;", "x := h(20); CASE x OF END_CASE;"));
        int[] due = {15, 13, 0, 0, 11, 12, 0, 14};
        Checks.due("cells", x.count(4), 960 + due.length);
        for (int i = 0; i < due.length; i++) {
            Checks.due("cell " + (960 + i), x.get(960 + i), due[i]);
        }
        Checks.due("a run", x.run(0), x.count(7));
        int[] behind = {21, 13, 21, 20, 20, 12, 21, 20};
        for (int i = 0; i < behind.length; i++) {
            Checks.due("cell " + (960 + i) + " behind", x.get(960 + i), behind[i]);
        }
    }

    private static void ports() {
        Checks.says("IN, CU, CD, CLK, S1, S 0; PT, R, LD, R1 1; PV 2; Q of TON to CTD 2, 2, 2, 3, 3, of the two TRIGs 1; ET 3; CV 4; Q1 2.");
        String[] inputs = {"TON IN 0", "TON PT 1", "TOF IN 0", "TOF PT 1", "TP IN 0", "TP PT 1", "CTU CU 0", "CTU R 1", "CTU PV 2", "CTD CD 0", "CTD LD 1", "CTD PV 2", "R_TRIG CLK 0",
            "F_TRIG CLK 0", "SR S1 0", "SR R 1", "RS S 0", "RS R1 1"};
        String[] types = {"TON", "TOF", "TP", "CTU", "CTD", "R_TRIG", "F_TRIG", "SR", "RS"};
        for (String input : inputs) {
            String[] words = input.split(" ");
            boolean isNumber = words[1].startsWith("P");
            int number = Arrays.asList(types).indexOf(words[0]);
            Checks.code(Checks.program("t : " + words[0] + ";", "t(" + words[1] + " := " + (isNumber ? "3" : "TRUE") + ");"),
                "PUSH " + (isNumber ? 3 : 1) + ", STORE " + (960 + Integer.parseInt(words[2])) + ", BLOCK " + number + " 960");
        }
        String[] outputs = {"TON Q 2", "TOF Q 2", "TP Q 2", "CTU Q 3", "CTD Q 3", "R_TRIG Q 1", "F_TRIG Q 1", "TON ET 3", "TOF ET 3", "TP ET 3", "CTU CV 4", "CTD CV 4", "SR Q1 2", "RS Q1 2"};
        for (String output : outputs) {
            String[] words = output.split(" ");
            String type = words[1].startsWith("Q") ? "BOOL" : "DINT";
            Checks.code(Checks.program("v : " + type + "; t : " + words[0] + ";", "v := t." + words[1] + ";"), "LOAD " + (961 + Integer.parseInt(words[2])) + ", STORE 960");
        }
    }

    private static void constants() {
        Checks.says("CONSTANT are 30, 31; 36, 35, and 34 of standard functions, all of whose children are,");
        code("x := 5; b := TRUE; b := FALSE;", "PUSH 5, STORE 960, PUSH 1, STORE 962, PUSH 0, STORE 962");
        code("x := -5; b := NOT FALSE; x := 2 + 3; x := MIN(2, 3);", "PUSH -5, STORE 960, PUSH 1, STORE 962, PUSH 5, STORE 960, PUSH 2, STORE 960");
        code("x := -(2 + MAX(1, ABS(-7)) * SEL(1 < 2, 1, 2));", "PUSH -16, STORE 960");
        // one child that is none, and all that is around it
        code("x := -(2 + MAX(1, ABS(x)) * SEL(1 < 2, 1, 2));", "PUSH 2, PUSH 1, LOAD 960, ONE 4, TWO 24, PUSH 2, TWO 2, TWO 0, ONE 0, STORE 960");
        code("x := x * 0; x := 0 * x; b := b AND FALSE; x := SEL(TRUE, x, 1);",
            "LOAD 960, PUSH 0, TWO 2, STORE 960, PUSH 0, LOAD 960, TWO 2, STORE 960, LOAD 962, PUSH 0, TWO 10, STORE 962, PUSH 1, LOAD 960, PUSH 1, CHOOSE, STORE 960");
        Checks.code("FUNCTION f : INT END_FUNCTION " + Checks.program(ALL, "x := f() + (1 + 1);"), "CALL 0, READ 0 0, PUSH 2, TWO 0, STORE 960");
        Checks.code("FUNCTION f : INT VAR_INPUT i : INT; END_VAR END_FUNCTION " + Checks.program(ALL, "x := f(1 + 1);"), "PUSH 2, WRITE 0 1, CALL 0, READ 0 0, STORE 960");
        code("x := a[1 + 1]; a[2 - 3] := 4 * 5;", "PUSH 2, TAKE 964 -1 5, STORE 960, PUSH -1, PUSH 20, PUT 964 -1 5");
        code("IF 1 > 2 THEN x := 1; END_IF; CASE 2 + 3 OF END_CASE;", "PUSH 0, UNLESS 4, PUSH 1, STORE 960, PUSH 5, STORE 969");
    }

    /** A constant expression becomes one PUSH of this. */
    private static void comes(String written, int means) {
        code("d := TO_DINT(" + written + ");", "PUSH " + means + ", STORE 961");
    }

    private static void foldedNumbers() {
        Checks.says("their code is PUSH of what the code told here would leave.");
        comes("32767 + 1", -32768);
        comes("-32767 - 2", 32767);
        comes("32767 * 32767", 1);
        comes("256 * 256", 0);
        comes("(-32767 - 1) / (-1)", -32768);
        comes("(-32767 - 1) MOD (-1)", 0);
        comes("-7 / 2", -3);
        comes("7 / (-2)", -3);
        comes("-7 MOD 2", -1);
        comes("7 MOD (-2)", 1);
        comes("32768 + 32768", 65536);
        comes("2147483647 + 1", Integer.MIN_VALUE);
        comes("-2147483647 - 2", Integer.MAX_VALUE);
        comes("65536 * 65536", 0);
        comes("2147483647 * 2147483647", 1);
        comes("(-2147483647 - 1) / (-1)", Integer.MIN_VALUE);
        comes("(-2147483647 - 1) MOD (-1)", 0);
        comes("-(-32767 - 1)", -32768);
        comes("-(-2147483647 - 1)", Integer.MIN_VALUE);
        comes("ABS(-32767 - 1)", -32768);
        comes("ABS(-2147483647 - 1)", Integer.MIN_VALUE);
        comes("ABS(-32768)", 32768);
        comes("NOT 0", -1);
        comes("NOT 32767", -32768);
        comes("NOT 2147483647", Integer.MIN_VALUE);
        comes("NOT TRUE", 0);
        comes("SHL(1, 15)", -32768);
        comes("SHL(1, 16)", 0);
        comes("SHL(1, -1)", 0);
        comes("SHL(1, 0)", 1);
        comes("SHL(32768, 16)", Integer.MIN_VALUE);
        comes("SHL(65536, 15)", Integer.MIN_VALUE);
        comes("SHL(65536, 31)", 0);
        comes("SHL(98305, 31)", Integer.MIN_VALUE);
        comes("SHL(98305, 32)", 0);
        comes("SHR(-1, 0)", -1);
        comes("SHR(-1, 1)", 32767);
        comes("SHR(-1, 15)", 1);
        comes("SHR(-1, 16)", 0);
        comes("SHR(-1, -1)", 0);
        comes("SHR(-65536, 31)", 1);
        comes("SHR(-65536, 32)", 0);
        comes("SHR(-65536, 0)", -65536);
        comes("TO_INT(32768)", -32768);
        comes("TO_INT(65536)", 0);
        comes("TO_INT(TRUE)", 1);
        comes("TO_BOOL(-32768)", 1);
        comes("TO_BOOL(65536)", 1);
        comes("TO_BOOL(0)", 0);
        comes("LIMIT(3, 2, 1)", 1);
        comes("LIMIT(1, 0, 3)", 1);
        comes("LIMIT(1, 4, 3)", 3);
        comes("LIMIT(1, 3, 3)", 3);
        comes("5 AND 3", 1);
        comes("5 OR 3", 7);
        comes("5 XOR 3", 6);
        comes("TRUE XOR TRUE", 0);
        comes("-2147483647 < 2147483647", 1);
        comes("-2147483647 - 1 < 2147483647", 1);
        // TO_DINT leaves its operand, whose code is that of an INT
        comes("TO_DINT(32767 + 1)", -32768);
        comes("TO_DINT(32767) + 1", 32768);
    }

    private static void dividedByZero() {
        Checks.says("but 35 of / and MOD whose second child comes to 0:");
        code("x := 1 / 0;", "PUSH 1, PUSH 0, TWO 3, STORE 960");
        code("x := 1 MOD 0;", "PUSH 1, PUSH 0, TWO 4, STORE 960");
        code("d := 32768 / (3 - 3);", "PUSH 32768, PUSH 0, TWO 8, STORE 961");
        code("d := 0 MOD (32768 * 0);", "PUSH 0, PUSH 0, TWO 9, STORE 961");
        code("x := 1 / (32767 + 1 + 32767 + 1);", "PUSH 1, PUSH 0, TWO 3, STORE 960");
        code("x := 0 / 1; x := 0 MOD 1; x := 1 / -1;", "PUSH 0, STORE 960, PUSH 0, STORE 960, PUSH -1, STORE 960");
        // it is no constant, so what is around it is none
        code("x := 2 + 1 / 0 * 3; x := ABS(1 / 0); x := -(1 MOD 0);",
            "PUSH 2, PUSH 1, PUSH 0, TWO 3, PUSH 3, TWO 2, TWO 0, STORE 960, PUSH 1, PUSH 0, TWO 3, ONE 4, STORE 960, PUSH 1, PUSH 0, TWO 4, ONE 0, STORE 960");
        code("x := 1 / (1 / 0);", "PUSH 1, PUSH 1, PUSH 0, TWO 3, TWO 3, STORE 960");
        CodeMaker maker = Checks.made(Checks.program(ALL, "x := 1 / 0;"));
        Checks.due("its run", maker.run(0), CodeMaker.ZERO);
    }

    private static void widths() {
        Checks.says("+ - * / MOD 0 to 4 if its type is INT, else 5 to 9.");
        code("x := x + y - x * y / x MOD y;", "LOAD 960, LOAD 963, TWO 0, LOAD 960, LOAD 963, TWO 2, LOAD 960, TWO 3, LOAD 963, TWO 4, TWO 1, STORE 960");
        code("d := d + d - d * d / d MOD d;", "LOAD 961, LOAD 961, TWO 5, LOAD 961, LOAD 961, TWO 7, LOAD 961, TWO 8, LOAD 961, TWO 9, TWO 6, STORE 961");
        // each by its own type: that of a sum within does not become that of the one around it
        code("d := x + y + d;", "LOAD 960, LOAD 963, TWO 0, LOAD 961, TWO 5, STORE 961");
        code("d := d + x * y;", "LOAD 961, LOAD 960, LOAD 963, TWO 2, TWO 5, STORE 961");
        code("d := x + 32767; d := x + 32768;", "LOAD 960, PUSH 32767, TWO 0, STORE 961, LOAD 960, PUSH 32768, TWO 5, STORE 961");
    }

    private static void functions() {
        Checks.says("34: ABS: x, ONE 4 if x is INT, else 5. MIN, MAX: both, TWO 23, 24. LIMIT a b c: a, b, TWO 24, c, TWO 23. SEL: all, CHOOSE.");
        code("x := ABS(x); d := ABS(d);", "LOAD 960, ONE 4, STORE 960, LOAD 961, ONE 5, STORE 961");
        code("x := MIN(x, y); d := MIN(d, x);", "LOAD 960, LOAD 963, TWO 23, STORE 960, LOAD 961, LOAD 960, TWO 23, STORE 961");
        code("x := MAX(x, y);", "LOAD 960, LOAD 963, TWO 24, STORE 960");
        code("x := LIMIT(x, y, 7); x := LIMIT(1, 2, x);", "LOAD 960, LOAD 963, TWO 24, PUSH 7, TWO 23, STORE 960, PUSH 1, PUSH 2, TWO 24, LOAD 960, TWO 23, STORE 960");
        code("x := SEL(b, x, y);", "LOAD 962, LOAD 960, LOAD 963, CHOOSE, STORE 960");
        Checks.says("SHL, SHR: both, TWO 19, 20 if the first is INT, else 21, 22. TO_INT: x, ONE 6. TO_DINT: x. TO_BOOL: x, ONE 7.");
        code("x := SHL(x, d); x := SHR(x, d);", "LOAD 960, LOAD 961, TWO 19, STORE 960, LOAD 960, LOAD 961, TWO 20, STORE 960");
        code("d := SHL(d, x); d := SHR(d, x);", "LOAD 961, LOAD 960, TWO 21, STORE 961, LOAD 961, LOAD 960, TWO 22, STORE 961");
        code("x := TO_INT(d); d := TO_DINT(b); b := TO_BOOL(x);", "LOAD 961, ONE 6, STORE 960, LOAD 962, STORE 961, LOAD 960, ONE 7, STORE 962");
        code("x := TO_INT(x); d := TO_DINT(d); x := TO_INT(b);", "LOAD 960, ONE 6, STORE 960, LOAD 961, STORE 961, LOAD 962, ONE 6, STORE 960");
    }

    private static void ifs() {
        Checks.says("15: for each expression: it, UNLESS (behind its body and that one's GO), body, GO to the end, if another child is behind; the 11 by ELSE.");
        code("IF b THEN END_IF;", "LOAD 962, UNLESS 2");
        code("IF b THEN ELSE END_IF;", "LOAD 962, UNLESS 3, GO 3");
        code("IF b THEN ELSIF b THEN END_IF;", "LOAD 962, UNLESS 3, GO 5, LOAD 962, UNLESS 5");
        code("IF b THEN ELSIF b THEN ELSE END_IF;", "LOAD 962, UNLESS 3, GO 6, LOAD 962, UNLESS 6, GO 6");
        code("IF b THEN x := 1; ELSE x := 2; END_IF; x := 3;", "LOAD 962, UNLESS 5, PUSH 1, STORE 960, GO 7, PUSH 2, STORE 960, PUSH 3, STORE 960");
        code("IF b THEN IF b THEN END_IF; ELSE IF b THEN END_IF; END_IF;", "LOAD 962, UNLESS 5, LOAD 962, UNLESS 4, GO 7, LOAD 962, UNLESS 7");
    }

    private static void cases() {
        Checks.says("or, if it has two constants, LOAD, PUSH, TWO 18, LOAD, PUSH, TWO 17, TWO 10, and TWO 11 behind the second one on; then as for 15.");
        code("CASE x OF END_CASE;", "LOAD 960, STORE 969");
        code("CASE x OF ELSE END_CASE;", "LOAD 960, STORE 969");
        code("CASE x OF 1: END_CASE;", "LOAD 960, STORE 969, LOAD 969, PUSH 1, TWO 13, UNLESS 6");
        code("CASE x OF 1: ELSE END_CASE;", "LOAD 960, STORE 969, LOAD 969, PUSH 1, TWO 13, UNLESS 7, GO 7");
        code("CASE x OF 1: 2: END_CASE;", "LOAD 960, STORE 969, LOAD 969, PUSH 1, TWO 13, UNLESS 7, GO 11, LOAD 969, PUSH 2, TWO 13, UNLESS 11");
        // two constants that are the same are still two
        code("CASE x OF 1 .. 1: END_CASE;", "LOAD 960, STORE 969, LOAD 969, PUSH 1, TWO 18, LOAD 969, PUSH 1, TWO 17, TWO 10, UNLESS 10");
        code("CASE x OF 1, 2, 3 .. 4: END_CASE;", "LOAD 960, STORE 969, LOAD 969, PUSH 1, TWO 13, LOAD 969, PUSH 2, TWO 13, TWO 11, "
            + "LOAD 969, PUSH 3, TWO 18, LOAD 969, PUSH 4, TWO 17, TWO 10, TWO 11, UNLESS 18");
        CodeMaker maker = Checks.made(Checks.program("d : DINT; r : INT;", "CASE d OF -3 .. -1: r := 1; 5: r := 2; 2147483646 .. 2147483647: r := 3; ELSE r := 4; END_CASE;"));
        int[] values = {-4, -3, -1, 0, 4, 5, 6, 2147483645, 2147483646, 2147483647, Integer.MIN_VALUE};
        int[] due = {4, 1, 1, 4, 4, 2, 4, 4, 3, 3, 4};
        for (int i = 0; i < values.length; i++) {
            maker.set(960, values[i]);
            maker.run(0);
            Checks.due("CASE of " + values[i], maker.get(961), due[i]);
        }
    }

    private static void loops() {
        Checks.says("19: PUSH of the first constant, STORE, COUNT (own cell, how often), NEXT (to behind BACK), body, LOAD, PUSH of the third constant (1 without), TWO 0 for INT, 5 for DINT, STORE, BACK to NEXT.");
        code("FOR x := 5 TO 4 DO END_FOR;", "PUSH 5, STORE 960, COUNT 969 0, NEXT 969 9, " + LOOP_END + ", BACK 3");
        code("FOR x := 5 TO 5 DO END_FOR;", "PUSH 5, STORE 960, COUNT 969 1, NEXT 969 9, " + LOOP_END + ", BACK 3");
        code("FOR d := -5 TO 5 BY 3 DO END_FOR;", "PUSH -5, STORE 961, COUNT 969 4, NEXT 969 9, LOAD 961, PUSH 3, TWO 5, STORE 961, BACK 3");
        code("FOR x := 32767 TO -32768 BY -32768 DO END_FOR;", "PUSH 32767, STORE 960, COUNT 969 2, NEXT 969 9, LOAD 960, PUSH -32768, TWO 0, STORE 960, BACK 3");
        code("FOR x := 1 TO 4 BY 2 DO b := b; y := x; END_FOR;", "PUSH 1, STORE 960, COUNT 969 2, NEXT 969 13, LOAD 962, STORE 962, LOAD 960, STORE 963, LOAD 960, PUSH 2, TWO 0, STORE 960, BACK 3");
        code("b := b; FOR x := 1 TO 2 DO b := b; END_FOR;", "LOAD 962, STORE 962, PUSH 1, STORE 960, COUNT 969 2, NEXT 969 13, LOAD 962, STORE 962, " + LOOP_END + ", BACK 5");
        Checks.code("FUNCTION f : INT FOR f := 1 TO 2 DO END_FOR; END_FUNCTION " + Checks.program(ALL, "FOR x := 1 TO 1 DO END_FOR;"),
            "PUSH 1, STORE 960, COUNT 969 1, NEXT 969 9, " + LOOP_END + ", BACK 3");
    }

    private static void exits() {
        Checks.says("20: GO to behind the BACK of the 19 that it is in next.");
        code("FOR x := 1 TO 2 DO EXIT; END_FOR;", "PUSH 1, STORE 960, COUNT 969 2, NEXT 969 10, GO 10, " + LOOP_END + ", BACK 3");
        code("FOR x := 1 TO 2 DO EXIT; FOR y := 1 TO 2 DO EXIT; EXIT; END_FOR; EXIT; END_FOR;",
            "PUSH 1, STORE 960, COUNT 969 2, NEXT 969 22, GO 22, PUSH 1, STORE 963, COUNT 970 2, NEXT 970 16, GO 16, GO 16, LOAD 963, PUSH 1, TWO 0, STORE 963, BACK 8, GO 22, "
            + LOOP_END + ", BACK 3");
        code("FOR x := 1 TO 2 DO IF b THEN EXIT; ELSE EXIT; END_IF; END_FOR; b := b;",
            "PUSH 1, STORE 960, COUNT 969 2, NEXT 969 14, LOAD 962, UNLESS 8, EXIT, GO 9, EXIT, ".replace("EXIT", "GO 14") + LOOP_END + ", BACK 3, LOAD 962, STORE 962");
    }

    private static void returns() {
        Checks.says("20: GO to behind the BACK of the 19 that it is in next. 21: LEAVE.");
        code("RETURN;", "LEAVE");
        code("RETURN; RETURN;", "LEAVE, LEAVE");
        code("IF b THEN RETURN; END_IF;", "LOAD 962, UNLESS 3, LEAVE");
        code(";", "");
    }

    private static void functionBeginnings() {
        Checks.says("A FUNCTION begins with PUSH 0, STORE 0, and, for each name in its VAR sections, PUSH of its constant (0 without), STORE.");
        CodeMaker x = Checks.made("FUNCTION f : INT END_FUNCTION FUNCTION g : BOOL VAR_INPUT a : INT := 5; END_VAR VAR b, c : INT := -6; d : BOOL := TRUE; END_VAR VAR END_VAR VAR e : DINT; END_VAR "
            + "END_FUNCTION PROGRAM p END_PROGRAM");
        Checks.due("the least", Checks.codeOf(x, 0), "PUSH 0, STORE 0");
        Checks.due("with all", Checks.codeOf(x, 1), "PUSH 0, STORE 0, PUSH -6, STORE 2, PUSH -6, STORE 3, PUSH 1, STORE 4, PUSH 0, STORE 5");
        Checks.due("a PROGRAM does not", Checks.codeOf(x, 2), "");
        Checks.says("(So all but inputs, which are written, begin anew at each call.)");
        CodeMaker y = Checks.made("FUNCTION f : INT VAR_INPUT i : INT; END_VAR VAR v : INT := 3; END_VAR v := v + i; f := f + v; END_FUNCTION " + Checks.program("x : INT;", "x := f(1) * 100 + f(2);"));
        for (int i = 0; i < 3; i++) {
            y.set(961, 50);
            y.set(963, 60);
            y.run(0);
            Checks.due("anew", y.get(960), 405);
        }
    }

    private static void inputsNotTold() {
        Checks.says("(an input that is not told keeps what it was, its constant at first);");
        CodeMaker x = Checks.made("FUNCTION_BLOCK g VAR_INPUT i : INT := 7; j : INT; END_VAR VAR_OUTPUT o : INT; END_VAR o := i + j; END_FUNCTION_BLOCK "
            + Checks.program("k : g; b : BOOL; r : INT;", "IF b THEN k(i := 20); ELSE k(); END_IF; r := k.o;"));
        Checks.due("code", Checks.codeOf(x, 1), "LOAD 963, UNLESS 6, PUSH 20, STORE 960, ENTER 0 960, GO 7, ENTER 0 960, LOAD 962, STORE 964");
        x.run(0);
        Checks.due("its constant", x.get(964), 7);
        x.set(963, 1);
        x.run(0);
        Checks.due("it is told", x.get(964), 20);
        x.set(963, 0);
        x.set(961, 5);
        x.run(0);
        Checks.due("it keeps what it was", x.get(964), 25);
    }

    private static void calls() {
        Checks.says("Of a FUNCTION: all expressions, WRITE of its inputs from the last one on, CALL, READ of its cell 0.");
        String f = "FUNCTION f : INT END_FUNCTION FUNCTION g : INT VAR_INPUT a : INT; END_VAR VAR z : INT; END_VAR VAR_INPUT b, c, d, e, h, i, j : INT; END_VAR END_FUNCTION ";
        Checks.code(f + Checks.program(ALL, "x := f();"), "CALL 0, READ 0 0, STORE 960");
        Checks.code(f + Checks.program(ALL, "x := g(1, 2, 3, 4, 5, 6, 7, f());"), "PUSH 1, PUSH 2, PUSH 3, PUSH 4, PUSH 5, PUSH 6, PUSH 7, CALL 0, READ 0 0, "
            + "WRITE 1 9, WRITE 1 8, WRITE 1 7, WRITE 1 6, WRITE 1 5, WRITE 1 4, WRITE 1 3, WRITE 1 1, CALL 1, READ 1 0, STORE 960");
    }

    private static void ladder(String rows, String want) {
        Checks.code(Checks.program("b : BOOL; q : BOOL;", "LADDER RUNG " + rows + " END_RUNG END_LADDER"), want);
    }

    private static void groups() {
        Checks.says("PUSH 1 at line 1, else LOAD of its power at the line to the left;");
        ladder("b;", "PUSH 1, LOAD 960, TWO 10, STORE 962");
        ladder("-;", "PUSH 1, STORE 962");
        ladder("- -;", "PUSH 1, STORE 962, LOAD 962, STORE 974");
        Checks.says("and TWO 11 behind the second such row on; without any PUSH 0; then STORE of the group's power.");
        ladder("*;", "PUSH 0, STORE 962");
        ladder("* | -; * -;", "PUSH 0, STORE 962, LOAD 962, STORE 974, LOAD 962, STORE 975");
        ladder("- | *; * | *; - *;", "PUSH 1, PUSH 1, TWO 11, STORE 962, PUSH 0, STORE 974, PUSH 0, STORE 975, PUSH 0, STORE 976");
        ladder("* | *; - | *; - *;", "PUSH 1, PUSH 1, TWO 11, STORE 962, PUSH 0, STORE 974, PUSH 0, STORE 975, PUSH 0, STORE 976");
        ladder("- | *; - | *; - *;", "PUSH 1, PUSH 1, TWO 11, PUSH 1, TWO 11, STORE 962, PUSH 0, STORE 974, PUSH 0, STORE 975, PUSH 0, STORE 976");
        Checks.says("(A row and the next one are linked at the line behind the cell before a 29 in the first of them.)");
        ladder("- | - -; - - | -; - - -;", "PUSH 1, PUSH 1, TWO 11, STORE 962, PUSH 1, STORE 964, LOAD 962, STORE 974, LOAD 962, LOAD 964, TWO 11, STORE 975, "
            + "LOAD 974, STORE 986, LOAD 975, STORE 987, LOAD 975, STORE 988");
        // the next rung has none of the links of the one before it
        ladder("- | -; - -; END_RUNG RUNG - -; - -;", "PUSH 1, PUSH 1, TWO 11, STORE 962, LOAD 962, STORE 974, LOAD 962, STORE 975, "
            + "PUSH 1, STORE 962, PUSH 1, STORE 963, LOAD 962, STORE 974, LOAD 963, STORE 975");
    }

    private static void powers() {
        Checks.says("with the last 156 cells of the block for powers (of row r at line k: 12 (k - 1) and the least row of its group):");
        // own cells of contacts are before them
        ladder(">b;", "PUSH 1, LOAD 960, LOAD 962, ONE 2, TWO 10, TWO 10, LOAD 960, STORE 962, STORE 963");
        ladder("<b;", "PUSH 1, LOAD 962, LOAD 960, ONE 2, TWO 10, TWO 10, LOAD 960, STORE 962, STORE 963");
        ladder("/b;", "PUSH 1, LOAD 960, ONE 2, TWO 10, STORE 962");
        Checks.code("FUNCTION_BLOCK g VAR v : BOOL; END_VAR LADDER RUNG -; END_RUNG RUNG -; END_RUNG END_LADDER END_FUNCTION_BLOCK " + Checks.program("k : g;", "k();"), "ENTER 0 960");
        CodeMaker inside = Checks.made("FUNCTION_BLOCK g VAR v : BOOL; END_VAR LADDER RUNG -; END_RUNG RUNG -; END_RUNG END_LADDER END_FUNCTION_BLOCK " + Checks.program("k : g;", "k();"));
        Checks.due("of a block", Checks.codeOf(inside, 0), "PUSH 1, STORE 1, PUSH 1, STORE 1");
        Checks.due("its cells", inside.count(4), 960 + 157);
    }

    private static void fullRung() {
        Checks.says("for each line 1 .. c, c being the number of columns, for each group of rows that are linked there, from the least row on, but for rows that end with a 28 at line c:");
        CodeMaker most = Checks.made(Checks.program("b : BOOL;", "LADDER RUNG " + ("- ".repeat(12) + ";").repeat(12) + " END_RUNG END_LADDER"));
        Checks.due("instructions", most.count(3), 2 * 144);
        Checks.due("the last power", most.told(0, 287, 1), 961 + 12 * 11 + 11);
        Checks.due("from the one to the left", most.told(0, 286, 1), 961 + 12 * 10 + 11);
        Checks.due("behind the powers", most.count(4), 961 + 156);
        most.run(0);
        for (int i = 0; i < 144; i++) {
            Checks.due("power " + i, most.get(961 + i), 1);
        }
        Checks.due("12 cells are never used", most.get(961 + 144), 0);
        CodeMaker linked = Checks.made(Checks.program("b : BOOL;", "LADDER RUNG " + ("- | ".repeat(11) + "- ;").repeat(11) + "- ".repeat(12) + "; END_RUNG END_LADDER"));
        // at lines 1 to 11 one group of twelve rows, at line 12 twelve groups
        Checks.due("instructions of linked rows", linked.count(3), 11 * (12 + 11 + 1) + 12 * 2);
        ladder("- (b); - -;", "PUSH 1, STORE 962, PUSH 1, STORE 963, LOAD 963, STORE 975, LOAD 962, STORE 960");
        ladder("- -; - (b);", "PUSH 1, STORE 962, PUSH 1, STORE 963, LOAD 962, STORE 974, LOAD 963, STORE 960");
    }

    private static void coils() {
        Checks.says("power being PUSH 1 with one column, else LOAD of its row's power at line c - 1.");
        ladder("(b);", "PUSH 1, STORE 960");
        ladder("(/b);", "PUSH 1, ONE 2, STORE 960");
        ladder("(+b);", "LOAD 960, PUSH 1, TWO 11, STORE 960");
        ladder("(-b);", "LOAD 960, PUSH 1, ONE 2, TWO 10, STORE 960");
        ladder("- (b);", "PUSH 1, STORE 962, LOAD 962, STORE 960");
        ladder("- | (b); - | (/b); - (+q);", "PUSH 1, PUSH 1, TWO 11, PUSH 1, TWO 11, STORE 962, LOAD 962, STORE 960, LOAD 962, ONE 2, STORE 960, LOAD 961, LOAD 962, TWO 11, STORE 961");
        ladder("- - (-b); * * (q);", "PUSH 1, STORE 962, PUSH 0, STORE 963, LOAD 962, STORE 974, PUSH 0, STORE 975, LOAD 960, LOAD 974, ONE 2, TWO 10, STORE 960, LOAD 975, STORE 961");
        CodeMaker wide = Checks.made(Checks.program("b : BOOL;", "LADDER RUNG " + "- ".repeat(11) + "(b); END_RUNG END_LADDER"));
        Checks.due("of twelve columns", wide.told(0, wide.length(0) - 2, 1), 961 + 12 * 10);
    }
}
