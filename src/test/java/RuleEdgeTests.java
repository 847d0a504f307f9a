/** Each sentence of 'RULES' that names an edge, with a test of its own. */
public final class RuleEdgeTests {
    private static final String ALL = "x, y : INT; d : DINT; b : BOOL; a : ARRAY [0 .. 3] OF INT; e : ARRAY [0 .. 3] OF BOOL; t : TON; c : CTU; "
        + "s : SR; i AT %IX0 : BOOL; w AT %IW0 : INT; q AT %QX0 : BOOL; m AT %MW0 : INT;";
    private static final String LEAST = "PROGRAM p END_PROGRAM";
    private static final String[] BLOCKS = {"TON", "TOF", "TP", "CTU", "CTD", "R_TRIG", "F_TRIG", "SR", "RS"};
    private static final String[] FUNCTIONS = {"ABS", "MIN", "MAX", "LIMIT", "SEL", "SHL", "SHR", "TO_INT", "TO_DINT", "TO_BOOL"};

    public static void main(String[] args) {
        order();
        programs();
        blockNames();
        sections();
        variableNames();
        placesTwice();
        arrays();
        instances();
        notSimple();
        typesAtPlaces();
        constants();
        cellsOfBlock();
        names();
        indices();
        outputs();
        typesOfNumbers();
        functions();
        operandCounts();
        inputsOfOthers();
        operandTypes();
        operators();
        notAssigned();
        loopNames();
        fitting();
        inputs();
        conditions();
        ranges();
        loops();
        loopTimes();
        exits();
        rungSizes();
        coils();
        inputCounts();
        noProgram();
        allCells();
        Checks.finish("RuleEdgeTests");
    }

    private static void faulty(int fault, String statements) {
        Checks.faulty(fault, Checks.program(ALL, statements));
    }

    private static void fine(String statements) {
        Checks.fine(Checks.program(ALL, statements));
    }

    private static String function(String sections, String body) {
        return "FUNCTION f : INT " + sections + " " + body + " END_FUNCTION ";
    }

    private static String block(String sections, String body) {
        return "FUNCTION_BLOCK g " + sections + " " + body + " END_FUNCTION_BLOCK ";
    }

    private static void order() {
        Checks.says("Nodes are looked at each BEHIND ITS CHILDREN, otherwise in their order (but 1, 2, 3 before theirs, for 10 and 11); the first that breaks a rule is told,");
        faulty(27, "x := TRUE \u00b6+ 1; x := z;");
        faulty(27, "IF 1 THEN x := TRUE \u00b6+ 1; END_IF;");
        faulty(20, "b := \u00b6z + TRUE;");
        faulty(27, "b := (TRUE \u00b6+ 1) + z;");
        faulty(20, "t(foo := \u00b6z);");
        faulty(32, "t(\u00b6foo := 1);");
        Checks.faulty(11, "\u00b6FUNCTION ABS : INT VAR x : foo; END_VAR END_FUNCTION");
        Checks.faulty(10, LEAST + " \u00b6FUNCTION p : INT VAR x : foo; END_VAR END_FUNCTION");
        Checks.faulty(17, "FUNCTION_BLOCK g VAR_OUTPUT x : \u00b6foo; END_VAR END_FUNCTION_BLOCK " + LEAST);
        Checks.faulty(12, "PROGRAM p VAR_INPUT x : INT; \u00b6x : foo; END_VAR END_PROGRAM");
        mostNodes();
        Checks.says("of its rules the first as told here; its place is the node's.");
        Checks.faulty(10, LEAST + " \u00b6PROGRAM p END_PROGRAM");
        Checks.faulty(43, block("VAR_INPUT \u00b6x : TON := 5; END_VAR", "") + LEAST);
        Checks.faulty(15, Checks.program("\u00b6x AT %IX0 : INT := TRUE;", ""));
        faulty(29, "i \u00b6:= 5;");
        faulty(21, "x := \u00b6x[b];");
        faulty(25, "x := \u00b6ABS(b, b);");
        faulty(32, "t(IN := b, \u00b6foo := b, foo := b);");
        faulty(33, "t(IN := b, \u00b6IN := 5);");
        faulty(39, "LADDER RUNG \u00b6(x) b; END_RUNG END_LADDER");
        faulty(41, "LADDER RUNG \u00b6(w); END_RUNG END_LADDER");
    }

    /** Texts with almost twice as many nodes as bytes: the last node is looked at like the first one. */
    private static void mostNodes() {
        String choices = "PROGRAM p VAR x:INT;END_VAR CASE x OF " + "1:".repeat(4050);
        Checks.faulty(20, choices + "\u00b6y:=1;END_CASE;END_PROGRAM");
        Checks.faulty(31, choices + "x\u00b6:=TRUE;END_CASE;END_PROGRAM");
        Checks.faulty(50, "\u00b6" + choices + "x:=1;END_CASE;END_PROGRAM");
        Checks.faulty(20, "PROGRAM p VAR b:BOOL;END_VAR LADDER RUNG " + "b;".repeat(4000) + "\u00b6c;END_RUNG END_LADDER END_PROGRAM");
        Checks.faulty(38, "PROGRAM p VAR b:BOOL;END_VAR LADDER \u00b6RUNG " + "b;".repeat(4000) + "END_RUNG END_LADDER END_PROGRAM");
        Checks.faulty(25, "PROGRAM p VAR x:INT;END_VAR x:=\u00b6MIN(" + "x,".repeat(4050) + "x);END_PROGRAM");
    }

    private static void programs() {
        Checks.says("1, 2, 3: FAULT 10: a PROGRAM is before.");
        Checks.faulty(10, LEAST + " \u00b6PROGRAM q END_PROGRAM");
        Checks.faulty(10, LEAST + " \u00b6FUNCTION f : INT END_FUNCTION");
        Checks.faulty(10, LEAST + " \u00b6FUNCTION_BLOCK g END_FUNCTION_BLOCK");
        Checks.faulty(10, function("", "") + LEAST + " \u00b6FUNCTION_BLOCK g END_FUNCTION_BLOCK");
        Checks.fine(function("", "") + block("", "") + LEAST);
    }

    private static void blockNames() {
        Checks.says("11: the name is that of a standard block or function, or of a block before.");
        for (String[] names : new String[][] {BLOCKS, FUNCTIONS}) {
            for (String name : names) {
                Checks.faulty(11, "\u00b6PROGRAM " + name + " END_PROGRAM");
                Checks.faulty(11, "\u00b6FUNCTION " + name.toLowerCase() + " : INT END_FUNCTION");
                Checks.faulty(11, "\u00b6FUNCTION_BLOCK " + name + " END_FUNCTION_BLOCK");
                Checks.fine("PROGRAM " + name + "1 END_PROGRAM");
            }
        }
        Checks.faulty(11, function("", "") + "\u00b6PROGRAM F END_PROGRAM");
        Checks.faulty(11, block("", "") + "\u00b6FUNCTION g : INT END_FUNCTION");
        Checks.faulty(11, function("", "") + "\u00b6FUNCTION f : INT END_FUNCTION");
        // inputs and outputs of standard blocks, and variables of blocks before, are none of these
        for (String name : "IN PT Q ET CU R PV CV CD LD CLK S1 S R1 Q1".split(" ")) {
            Checks.fine("PROGRAM " + name + " END_PROGRAM");
        }
        Checks.fine(function("VAR v : INT; END_VAR", "") + "PROGRAM v END_PROGRAM");
    }

    private static void sections() {
        Checks.says("4: 13: not VAR in a PROGRAM; VAR_OUTPUT in a FUNCTION.");
        Checks.faulty(13, "PROGRAM p \u00b6VAR_INPUT END_VAR END_PROGRAM");
        Checks.faulty(13, "PROGRAM p VAR END_VAR \u00b6VAR_OUTPUT END_VAR END_PROGRAM");
        Checks.faulty(13, function("\u00b6VAR_OUTPUT END_VAR", "") + LEAST);
        Checks.fine(function("VAR END_VAR VAR_INPUT END_VAR", "") + block("VAR END_VAR VAR_INPUT END_VAR VAR_OUTPUT END_VAR", "") + "PROGRAM p VAR END_VAR END_PROGRAM");
    }

    private static void variableNames() {
        Checks.says("6 in 5: 12: the name is that of a variable of this block before, of this block or one before, or of a standard block or function.");
        Checks.faulty(12, Checks.program("x, y, \u00b6X : INT;", ""));
        Checks.faulty(12, "PROGRAM p VAR x : INT; END_VAR VAR \u00b6x : INT; END_VAR END_PROGRAM");
        Checks.faulty(12, Checks.program("\u00b6P : INT;", ""));
        Checks.faulty(12, function("VAR_INPUT \u00b6f : INT; END_VAR", "") + LEAST);
        Checks.faulty(12, block("VAR_OUTPUT \u00b6g : INT; END_VAR", "") + LEAST);
        Checks.faulty(12, block("", "") + Checks.program("\u00b6g : g;", ""));
        for (String name : BLOCKS) {
            Checks.faulty(12, Checks.program("\u00b6" + name + " : INT;", ""));
        }
        for (String name : FUNCTIONS) {
            Checks.faulty(12, Checks.program("\u00b6" + name.toLowerCase() + " : INT;", ""));
        }
        // of a block behind it may be, and of a variable of another block
        Checks.fine(function("VAR g, p, x : INT; END_VAR", "") + block("VAR x, p : INT; END_VAR", "") + Checks.program("x : INT;", ""));
    }

    private static void placesTwice() {
        Checks.says("7: 14: not in a PROGRAM; or more than one name is before it; or it was in a declaration before.");
        Checks.faulty(14, function("VAR x AT \u00b6%MX0 : BOOL; END_VAR", "") + LEAST);
        Checks.faulty(14, block("VAR x AT \u00b6%MX0 : BOOL; END_VAR", "") + LEAST);
        Checks.faulty(14, Checks.program("x, y AT \u00b6%MX0 : BOOL;", ""));
        String[] areas = {"IX", "QX", "MX", "IW", "QW", "MW"};
        StringBuilder all = new StringBuilder();
        for (int i = 0; i < areas.length; i++) {
            String type = i < 3 ? "BOOL" : "INT";
            int most = i < 3 ? 255 : 63;
            for (int at : new int[] {0, most}) {
                all.append("v").append(i).append('_').append(at).append(" AT %").append(areas[i]).append(at).append(" : ").append(type).append("; ");
                Checks.faulty(14, Checks.program("x AT %" + areas[i] + at + " : " + type + "; y AT \u00b6%" + areas[i] + "0" + at + " : " + type + ";", ""));
            }
        }
        // each place once: none of them is another one
        Checks.fine(Checks.program(all.toString(), ""));
    }

    private static void arrays() {
        Checks.says("9: 16: in a FUNCTION; a constant is 31; the first one is greater; there would be more than 256 elements (reckoned without a bound).");
        Checks.faulty(16, function("VAR x : \u00b6ARRAY [0 .. 0] OF INT; END_VAR", "") + LEAST);
        Checks.fine(block("VAR x : ARRAY [0 .. 0] OF INT; END_VAR", "") + LEAST);
        for (String bounds : new String[] {"TRUE .. 1", "0 .. TRUE", "FALSE .. FALSE", "1 .. 0", "0 .. -1", "-1 .. -2", "2147483647 .. -2147483647", "0 .. 256",
            "-1 .. 255", "-256 .. 0", "-257 .. -1", "1 .. 257", "-2147483647 .. 2147483647", "-1 .. 2147483647", "-2147483647 .. 0",
            "-2147483647 .. 1", "2147483391 .. 2147483647"}) {
            Checks.faulty(16, Checks.program("x : \u00b6ARRAY [" + bounds + "] OF INT;", ""));
        }
        String[] good = {"0 .. 0", "0 .. 255", "-1 .. 254", "-256 .. -1", "2147483647 .. 2147483647", "-2147483647 .. -2147483647", "2147483392 .. 2147483647",
            "-2147483647 .. -2147483392", "1 .. 1"};
        int[] elements = {1, 256, 256, 256, 1, 1, 256, 256, 1};
        for (int i = 0; i < good.length; i++) {
            Checks.due("cells of [" + good[i] + "]", Checks.made(Checks.program("x : ARRAY [" + good[i] + "] OF INT;", "")).count(4), 960 + elements[i]);
        }
    }

    private static void instances() {
        Checks.says("10: 17: no standard block, and no FUNCTION_BLOCK before; or in a FUNCTION.");
        for (String name : BLOCKS) {
            Checks.fine(Checks.program("v : " + name + ";", ""));
            Checks.faulty(17, function("VAR v : \u00b6" + name + "; END_VAR", "") + LEAST);
        }
        for (String name : FUNCTIONS) {
            Checks.faulty(17, Checks.program("v : \u00b6" + name + ";", ""));
        }
        Checks.faulty(17, Checks.program("v : \u00b6z;", ""));
        Checks.faulty(17, Checks.program("z : INT; v : \u00b6z;", ""));
        Checks.faulty(17, Checks.program("v : \u00b6p;", ""));
        Checks.faulty(17, function("", "") + Checks.program("v : \u00b6f;", ""));
        Checks.faulty(17, block("VAR v : \u00b6g; END_VAR", "") + LEAST);
        Checks.faulty(17, "FUNCTION_BLOCK h VAR v : \u00b6g; END_VAR END_FUNCTION_BLOCK " + block("", "") + LEAST);
        Checks.faulty(17, block("", "") + function("VAR v : \u00b6g; END_VAR", "") + LEAST);
        Checks.fine(block("", "") + "FUNCTION_BLOCK h VAR v : g; END_VAR END_FUNCTION_BLOCK " + Checks.program("v : h; u : g;", ""));
    }

    private static void notSimple() {
        Checks.says("5: 43: in VAR_INPUT or VAR_OUTPUT, and not simple.");
        for (String section : new String[] {"VAR_INPUT", "VAR_OUTPUT"}) {
            Checks.faulty(43, block(section + " \u00b6v : ARRAY [0 .. 0] OF INT; END_VAR", "") + LEAST);
            Checks.faulty(43, block(section + " \u00b6v, u : TON; END_VAR", "") + LEAST);
            Checks.fine(block(section + " v : BOOL; u : INT; w : DINT; END_VAR", "") + LEAST);
        }
        Checks.fine(block("VAR v : ARRAY [0 .. 0] OF INT; u : TON; END_VAR", "") + LEAST);
    }

    private static void typesAtPlaces() {
        Checks.says("15: with 7, it is not BOOL for X, INT for W.");
        for (String area : new String[] {"I", "Q", "M"}) {
            for (String type : new String[] {"INT", "DINT", "TON", "ARRAY [0 .. 0] OF BOOL"}) {
                Checks.faulty(15, Checks.program("\u00b6v AT %" + area + "X255 : " + type + ";", ""));
            }
            for (String type : new String[] {"BOOL", "DINT", "TON", "ARRAY [0 .. 0] OF INT"}) {
                Checks.faulty(15, Checks.program("\u00b6v AT %" + area + "W0 : " + type + ";", ""));
            }
            Checks.fine(Checks.program("v AT %" + area + "X255 : BOOL; u AT %" + area + "W0 : INT;", ""));
        }
    }

    private static void constants() {
        Checks.says("18: with a constant: the type is an instance; or 7 is IX or IW;");
        Checks.faulty(18, Checks.program("\u00b6v : TON := 0;", ""));
        Checks.faulty(18, block("", "") + Checks.program("\u00b6v : g := TRUE;", ""));
        for (String name : BLOCKS) {
            for (String constant : new String[] {"TRUE", "FALSE", "0", "5", "-40000"}) {
                Checks.faulty(18, Checks.program("\u00b6v : " + name + " := " + constant + ";", ""));
                Checks.faulty(18, block("", "") + Checks.program("\u00b6v : g := " + constant + ";", ""));
            }
        }
        Checks.faulty(18, Checks.program("\u00b6v AT %IX0 : BOOL := FALSE;", ""));
        Checks.faulty(18, Checks.program("\u00b6v AT %IX255 : BOOL := TRUE;", ""));
        Checks.faulty(18, Checks.program("\u00b6v AT %IW0 : INT := 0;", ""));
        Checks.faulty(18, Checks.program("\u00b6v AT %IW63 : INT := 0;", ""));
        Checks.fine(Checks.program("a AT %QX0 : BOOL := TRUE; b AT %MX255 : BOOL := TRUE; c AT %QW0 : INT := 1; d AT %MW63 : INT := 1; e AT %QX255 : BOOL := TRUE; "
            + "f AT %MX0 : BOOL := TRUE; g AT %QW63 : INT := 1; h AT %MW0 : INT := 1;", ""));
        Checks.says("the constant is 31 and its (its elements') type not BOOL, or the other way round;");
        for (String type : new String[] {"INT", "DINT", "ARRAY [0 .. 1] OF INT", "ARRAY [0 .. 1] OF DINT"}) {
            Checks.faulty(18, Checks.program("\u00b6v : " + type + " := TRUE;", ""));
            Checks.faulty(18, Checks.program("\u00b6v : " + type + " := FALSE;", ""));
            Checks.fine(Checks.program("v : " + type + " := 1;", ""));
        }
        for (String type : new String[] {"BOOL", "ARRAY [0 .. 1] OF BOOL"}) {
            Checks.faulty(18, Checks.program("\u00b6v : " + type + " := 0;", ""));
            Checks.faulty(18, Checks.program("\u00b6v : " + type + " := 1;", ""));
            Checks.fine(Checks.program("v : " + type + " := TRUE;", ""));
        }
        Checks.says("or it is below -32,768 or above 32,767 for INT.");
        for (String type : new String[] {"INT", "ARRAY [0 .. 1] OF INT"}) {
            for (String constant : new String[] {"-32769", "32768", "65536", "-65536", "2147483647", "-2147483647", "16#8000"}) {
                Checks.faulty(18, Checks.program("\u00b6v : " + type + " := " + constant + ";", ""));
            }
            for (int constant : new int[] {-32768, 32767, 0}) {
                Checks.due("its cell", Checks.made(Checks.program("v : " + type + " := " + constant + ";", "")).get(960), constant);
            }
        }
        Checks.faulty(18, Checks.program("\u00b6v AT %MW0 : INT := 32768;", ""));
        Checks.fine(Checks.program("v : DINT := 2147483647; u : DINT := -2147483647; w : ARRAY [0 .. 1] OF DINT := -32769;", ""));
    }

    private static void cellsOfBlock() {
        Checks.says("19: the block's cells (see CELLS) are more than 4,096 behind it (those for its variables alone: what comes behind these is not looked at).");
        String full = "a, b, c, d, e, f, h, i, j, k, l, m : ARRAY [1 .. 256] OF INT; ";
        // a PROGRAM has 960 + 12 * 256 + 64
        Checks.due("4,096 cells", Checks.made(Checks.program(full + "n : ARRAY [1 .. 64] OF INT; o AT %MX0 : BOOL;", "")).count(4), 4096);
        Checks.faulty(19, Checks.program(full + "\u00b6n : ARRAY [1 .. 65] OF INT;", ""));
        Checks.faulty(19, Checks.program(full + "n : ARRAY [1 .. 64] OF INT; \u00b6o : BOOL;", ""));
        Checks.faulty(19, Checks.program(full + "n : ARRAY [1 .. 64] OF INT; \u00b6r, s : BOOL;", ""));
        Checks.faulty(19, Checks.program(full + "n : ARRAY [1 .. 59] OF INT; \u00b6o : TON;", ""));
        Checks.fine(Checks.program(full + "n : ARRAY [1 .. 58] OF INT; o : TON;", ""));
        Checks.faulty(19, Checks.program("\u00b6" + full.replace(" m ", " m, n "), ""));
        // a FUNCTION_BLOCK has 16 * 256
        String most = full.replace(" m ", " m, n, o, q, r ");
        Checks.fine(block("VAR " + most + "END_VAR", "") + LEAST);
        Checks.faulty(19, block("VAR " + most + "END_VAR VAR_INPUT \u00b6z : BOOL; END_VAR", "") + LEAST);
        // what comes behind the variables: loops, contacts, a LADDER
        Checks.fine(block("VAR " + most.replace(" r ", " s ") + "END_VAR", "LADDER END_LADDER") + LEAST);
        Checks.due("4,096, and 156, and 2", Checks.made(Checks.program(full + "n : ARRAY [1 .. 63] OF INT; o : BOOL;", "LADDER RUNG >o <o; END_RUNG END_LADDER")).count(4), 4096 + 2 + 156);
        Checks.due("4,096, and 2", Checks.made(Checks.program(full + "n : ARRAY [1 .. 63] OF INT; o : INT;", "FOR o := 1 TO 2 DO CASE o OF END_CASE; END_FOR;")).count(4), 4098);
        // but an instance has these, too: 2,980 and 156 fill a PROGRAM, one more does not fit
        String inside = full.replace(" l, m ", " l ");
        Checks.due("an instance with its LADDER", Checks.made(block("VAR " + inside + "n : ARRAY [1 .. 164] OF INT; END_VAR", "LADDER END_LADDER") + Checks.program("v : g;", "")).count(4), 4096);
        Checks.faulty(19, block("VAR " + inside + "n : ARRAY [1 .. 165] OF INT; END_VAR", "LADDER END_LADDER") + Checks.program("\u00b6v : g;", ""));
    }

    private static void names() {
        Checks.says("FAULT 20: no variable of this block.");
        faulty(20, "x := \u00b6z;");
        faulty(20, "\u00b6z := 1;");
        faulty(20, "x := \u00b6z[0];");
        faulty(20, "\u00b6z[0] := 1;");
        faulty(20, "b := \u00b6z.Q;");
        faulty(20, "\u00b6z();");
        faulty(20, "\u00b6FOR z := 1 TO 2 DO END_FOR;");
        faulty(20, "LADDER RUNG /\u00b6z; END_RUNG END_LADDER");
        faulty(20, "LADDER RUNG >\u00b6z.Q; END_RUNG END_LADDER");
        faulty(20, "LADDER RUNG (+\u00b6z); END_RUNG END_LADDER");
        Checks.faulty(20, function("VAR z : INT; END_VAR", "z := f;") + Checks.program(ALL, "x := \u00b6z;"));
        Checks.faulty(20, function("", "") + Checks.program(ALL, "x := \u00b6f;"));
        faulty(20, "x := \u00b6p;");
        faulty(20, "x := \u00b6TON;");
        faulty(20, "\u00b6TON();");
        Checks.says("21: not simple (6, 19), no array (32), no instance (13, 33).");
        for (String name : new String[] {"a", "t"}) {
            faulty(21, "x := \u00b6" + name + ";");
            faulty(21, "\u00b6" + name + " := 1;");
            faulty(21, "\u00b6FOR " + name + " := 1 TO 2 DO END_FOR;");
            faulty(21, "LADDER RUNG \u00b6" + name + "; END_RUNG END_LADDER");
            faulty(21, "LADDER RUNG (\u00b6" + name + "); END_RUNG END_LADDER");
        }
        for (String name : new String[] {"x", "t"}) {
            faulty(21, "x := \u00b6" + name + "[0];");
            faulty(21, "\u00b6" + name + "[0] := 1;");
        }
        for (String name : new String[] {"x", "a"}) {
            faulty(21, "\u00b6" + name + "();");
            faulty(21, "b := \u00b6" + name + ".Q;");
            faulty(21, "LADDER RUNG <\u00b6" + name + ".Q; END_RUNG END_LADDER");
        }
        Checks.says("A FUNCTION's own name is a simple variable of it, too, of its type.");
        Checks.fine(function("", "f := f + 1; FOR f := 1 TO 2 DO END_FOR;") + LEAST);
        Checks.faulty(21, function("", "f := \u00b6f[0];") + LEAST);
        Checks.faulty(21, function("", "\u00b6f();") + LEAST);
        Checks.faulty(31, function("", "f \u00b6:= 32768;") + LEAST);
        Checks.faulty(20, block("", "\u00b6g := 1;") + LEAST);
    }

    private static void indices() {
        Checks.says("32: 22: the index is no number.");
        faulty(22, "x := \u00b6a[b];");
        faulty(22, "x := \u00b6a[TRUE];");
        faulty(22, "\u00b6a[x = y] := 1;");
        fine("x := a[d]; x := a[x]; a[2147483647] := a[-1];");
        Checks.says("Its type is that of the elements.");
        faulty(31, "x \u00b6:= e[0];");
        faulty(31, "e[0] \u00b6:= 1;");
        fine("b := e[x]; e[x] := b; d := a[x];");
    }

    private static void outputs() {
        Checks.says("33: 23: the 6 in it is no output of the instance.");
        faulty(23, "b := \u00b6t.IN;");
        faulty(23, "d := \u00b6t.PT;");
        faulty(23, "x := \u00b6t.CV;");
        faulty(23, "b := \u00b6s.Q;");
        faulty(23, "b := \u00b6t.x;");
        faulty(23, "LADDER RUNG \u00b6c.R; END_RUNG END_LADDER");
        String g = block("VAR_INPUT i : INT; END_VAR VAR v : INT; END_VAR VAR_OUTPUT o : DINT; q : BOOL; END_VAR", "");
        Checks.faulty(23, g + Checks.program("k : g; x : INT;", "x := \u00b6k.i;"));
        Checks.faulty(23, g + Checks.program("k : g; x : INT;", "x := \u00b6k.v;"));
        Checks.faulty(23, g + Checks.program("k : g; x : INT;", "x := \u00b6k.g;"));
        Checks.says("Its type is that of the output.");
        Checks.faulty(31, g + Checks.program("k : g; x : INT;", "x \u00b6:= k.o;"));
        Checks.fine(g + Checks.program("k : g; d : DINT; b : BOOL;", "d := k.o; b := k.q;"));
        faulty(31, "x \u00b6:= t.ET;");
        faulty(31, "x \u00b6:= c.Q;");
        fine("d := t.ET; x := c.CV; b := t.Q; b := c.Q; b := s.Q1;");
    }

    private static void typesOfNumbers() {
        Checks.says("30: INT up to 32,767 (below 0, too), else DINT. 31: BOOL.");
        fine("x := 0; x := 32767; x := -32767; d := 32768;");
        faulty(31, "x \u00b6:= 32768;");
        faulty(31, "x \u00b6:= 2147483647;");
        faulty(31, "x \u00b6:= -32768;");
        faulty(31, "x \u00b6:= 1 + 32768;");
        faulty(31, "x \u00b6:= 16#8000;");
        faulty(31, "x \u00b6:= T#33s;");
        fine("x := T#32s; x := 16#7FFF;");
        faulty(31, "x \u00b6:= TRUE;");
        faulty(31, "b \u00b6:= 1;");
    }

    private static void functions() {
        Checks.says("34: 24: no standard function, and no FUNCTION before.");
        faulty(24, "x := \u00b6z(1);");
        faulty(24, "x := \u00b6x();");
        faulty(24, "x := \u00b6p();");
        faulty(24, "x := \u00b6TON(1);");
        faulty(24, "x := \u00b6t(1);");
        for (String name : "IN PT Q ET CU R PV CV CD LD CLK S1 S R1 Q1".split(" ")) {
            faulty(24, "x := \u00b6" + name + "(1);");
        }
        Checks.faulty(24, block("", "") + Checks.program(ALL, "x := \u00b6g();"));
        Checks.faulty(24, function("", "f := \u00b6f();") + LEAST);
        Checks.faulty(24, "FUNCTION h : INT h := \u00b6f(); END_FUNCTION " + function("", "") + LEAST);
        Checks.fine(function("", "") + "FUNCTION h : INT h := f(); END_FUNCTION " + Checks.program(ALL, "x := h() + f();"));
    }

    private static String operands(String operand, int many) {
        return many == 0 ? "" : operand + (", " + operand).repeat(many - 1);
    }

    private static void operandCounts() {
        Checks.says("25: another number of expressions than: ABS, TO_INT, TO_DINT, TO_BOOL 1, MIN MAX SHL SHR 2, LIMIT SEL 3, a FUNCTION its inputs.");
        int[] wanted = {1, 2, 2, 3, 3, 2, 2, 1, 1, 1};
        for (int i = 0; i < FUNCTIONS.length; i++) {
            for (int many = 0; many <= 5; many++) {
                String call = FUNCTIONS[i] + "(" + operands("x", many) + ")";
                if (many != wanted[i]) {
                    faulty(25, "x := \u00b6" + call + ";");
                }
            }
        }
        String names = "a, b, c, d, e, g, h, i";
        for (int inputs = 0; inputs <= 8; inputs++) {
            String section = inputs == 0 ? "" : "VAR_INPUT " + names.substring(0, 3 * inputs - 2) + " : INT; END_VAR VAR v : INT; END_VAR";
            String f = function(section, "");
            Checks.fine(f + Checks.program(ALL, "x := f(" + operands("x", inputs) + ");"));
            Checks.faulty(25, f + Checks.program(ALL, "x := \u00b6f(" + operands("x", inputs + 1) + ");"));
            if (inputs > 0) {
                Checks.faulty(25, f + Checks.program(ALL, "x := \u00b6f(" + operands("x", inputs - 1) + ");"));
            }
        }
    }

    private static void inputsOfOthers() {
        Checks.says("LIMIT SEL 3, a FUNCTION its inputs.");
        // the inputs of the block behind it are none of its
        String two = function("VAR_INPUT a : INT; END_VAR", "") + block("VAR_INPUT b : INT; END_VAR", "") + "FUNCTION_BLOCK h VAR_INPUT c : INT; END_VAR VAR_OUTPUT o : INT; END_VAR END_FUNCTION_BLOCK ";
        Checks.code(two + Checks.program(ALL, "x := f(1);"), "PUSH 1, WRITE 0 1, CALL 0, READ 0 0, STORE 960");
        Checks.faulty(25, two + Checks.program(ALL, "x := \u00b6f(1, 2);"));
        Checks.faulty(25, function("", "") + block("VAR_INPUT b : INT; END_VAR", "") + Checks.program(ALL, "x := \u00b6f(1);"));
        Checks.faulty(32, two + Checks.program("k : g;", "k(\u00b6c := 1);"));
        Checks.faulty(32, two + Checks.program("k : h;", "k(\u00b6b := 1);"));
        Checks.faulty(23, two + Checks.program("k : g; x : INT;", "x := \u00b6k.o;"));
        Checks.fine(two + Checks.program("k : g; l : h;", "k(b := 1); l(c := 1);"));
    }

    private static void operandTypes() {
        Checks.says("26: types: ABS, MIN, MAX, LIMIT want numbers, and give the widest;");
        for (String call : new String[] {"ABS(b)", "MIN(b, x)", "MIN(x, b)", "MAX(b, x)", "MAX(d, b)", "LIMIT(b, x, x)", "LIMIT(x, b, x)", "LIMIT(x, x, b)", "MIN(b, b)"}) {
            faulty(26, "d := \u00b6" + call + ";");
        }
        for (String call : new String[] {"ABS(d)", "MIN(d, x)", "MIN(x, d)", "MAX(x, d)", "LIMIT(d, x, x)", "LIMIT(x, d, x)", "LIMIT(x, x, d)"}) {
            faulty(31, "x \u00b6:= " + call + ";");
            fine("d := " + call + ";");
        }
        fine("x := ABS(x); x := MIN(x, y); x := MAX(x, y); x := LIMIT(x, y, 32767);");
        Checks.says("SHL, SHR numbers, and give the first one's;");
        for (String name : new String[] {"SHL", "SHR"}) {
            faulty(26, "d := \u00b6" + name + "(b, x);");
            faulty(26, "d := \u00b6" + name + "(x, b);");
            faulty(31, "x \u00b6:= " + name + "(d, x);");
            fine("x := " + name + "(x, d); d := " + name + "(d, x);");
        }
        Checks.says("SEL BOOL, then two BOOLs, giving that, or two numbers, giving the wider;");
        for (String call : new String[] {"SEL(x, x, x)", "SEL(b, b, x)", "SEL(b, x, b)", "SEL(x, b, b)"}) {
            faulty(26, "d := \u00b6" + call + ";");
        }
        faulty(31, "x \u00b6:= SEL(b, x, d);");
        faulty(31, "x \u00b6:= SEL(b, d, x);");
        faulty(31, "x \u00b6:= SEL(b, b, b);");
        fine("x := SEL(b, x, y); d := SEL(b, x, d); b := SEL(b, b, b);");
        Checks.says("TO_BOOL a number, giving BOOL; TO_INT, TO_DINT anything, giving that;");
        faulty(26, "b := \u00b6TO_BOOL(b);");
        fine("b := TO_BOOL(x); b := TO_BOOL(d); x := TO_INT(b); x := TO_INT(x); x := TO_INT(d); d := TO_DINT(b); d := TO_DINT(x); d := TO_DINT(d);");
        faulty(31, "x \u00b6:= TO_DINT(x);");
        faulty(31, "x \u00b6:= TO_BOOL(x);");
        faulty(31, "b \u00b6:= TO_INT(b);");
        Checks.says("a FUNCTION what fits its inputs in order, giving its type.");
        String f = "FUNCTION f : DINT VAR_INPUT i : INT; END_VAR VAR v : BOOL; END_VAR VAR_INPUT j : DINT; k : BOOL; END_VAR END_FUNCTION ";
        for (String call : new String[] {"f(d, d, b)", "f(b, d, b)", "f(x, b, b)", "f(x, d, x)", "f(32768, d, b)", "f(b, x, d)"}) {
            Checks.faulty(26, f + Checks.program(ALL, "d := \u00b6" + call + ";"));
        }
        Checks.fine(f + Checks.program(ALL, "d := f(x, x, b); d := f(32767, 32768, TRUE);"));
        Checks.faulty(31, f + Checks.program(ALL, "x \u00b6:= f(x, x, b);"));
    }

    private static void operators() {
        Checks.says("35: 27: 0 to 2 want two BOOLs, giving that, or two numbers, giving the wider; 3, 4 the same, giving BOOL;");
        for (String sign : new String[] {"OR", "XOR", "AND", "&", "=", "<>"}) {
            faulty(27, "b := b \u00b6" + sign + " x;");
            faulty(27, "b := d \u00b6" + sign + " b;");
            fine("b := b " + sign + " b;");
            boolean compares = sign.equals("=") || sign.equals("<>");
            fine((compares ? "b" : "x") + " := x " + sign + " y; " + (compares ? "b" : "d") + " := x " + sign + " d;");
            faulty(31, "x \u00b6:= x " + sign + " d;");
            faulty(31, "x \u00b6:= d " + sign + " x;");
            faulty(31, "x \u00b6:= b " + sign + " b;");
        }
        Checks.says("5 to 8 two numbers, giving BOOL; 9 to 13 two numbers, giving the wider.");
        for (String sign : new String[] {"<", ">", "<=", ">=", "+", "-", "*", "/", "MOD"}) {
            faulty(27, "b := b \u00b6" + sign + " b;");
            faulty(27, "b := b \u00b6" + sign + " x;");
            faulty(27, "b := x \u00b6" + sign + " b;");
            boolean compares = sign.contains("<") || sign.contains(">");
            fine((compares ? "b" : "x") + " := x " + sign + " y; " + (compares ? "b" : "d") + " := d " + sign + " x;");
            faulty(31, "x \u00b6:= x " + sign + " d;");
            faulty(31, "x \u00b6:= d " + sign + " x;");
        }
        Checks.says("36: 28: '-' wants a number, giving its type; NOT anything, giving that.");
        faulty(28, "b := \u00b6-b;");
        faulty(28, "b := \u00b6-TRUE;");
        faulty(28, "x := -\u00b6-(x = y);");
        faulty(31, "x \u00b6:= -d;");
        faulty(31, "x \u00b6:= NOT d;");
        faulty(31, "x \u00b6:= NOT b;");
        fine("x := -x; d := -d; b := NOT b; x := NOT x; d := NOT d;");
    }

    private static void notAssigned() {
        Checks.says("ASSIGNED may not be (29): a VAR_INPUT; a variable at IX or IW;");
        Checks.faulty(29, function("VAR_INPUT v : INT; END_VAR", "v \u00b6:= 1;") + LEAST);
        Checks.faulty(29, block("VAR_INPUT v : INT; END_VAR", "v \u00b6:= 1;") + LEAST);
        Checks.faulty(29, block("VAR_INPUT v : INT; END_VAR", "\u00b6FOR v := 1 TO 2 DO END_FOR;") + LEAST);
        Checks.faulty(29, block("VAR_INPUT v : BOOL; END_VAR", "LADDER RUNG \u00b6(/v); END_RUNG END_LADDER") + LEAST);
        Checks.fine(block("VAR_OUTPUT v : INT; END_VAR VAR u : INT; END_VAR", "v := 1; u := 1; FOR v := 1 TO 2 DO END_FOR;") + LEAST);
        for (String place : new String[] {"IX0", "IX255"}) {
            Checks.faulty(29, Checks.program("v AT %" + place + " : BOOL;", "v \u00b6:= TRUE;"));
            Checks.faulty(29, Checks.program("v AT %" + place + " : BOOL;", "LADDER RUNG \u00b6(-v); END_RUNG END_LADDER"));
        }
        for (String place : new String[] {"IW0", "IW63"}) {
            Checks.faulty(29, Checks.program("v AT %" + place + " : INT;", "v \u00b6:= 1;"));
            Checks.faulty(29, Checks.program("v AT %" + place + " : INT;", "\u00b6FOR v := 1 TO 2 DO END_FOR;"));
        }
        Checks.fine(Checks.program("v AT %QX0 : BOOL; u AT %MX255 : BOOL; w AT %QX255 : BOOL;", "v := TRUE; u := TRUE; w := TRUE;"));
        Checks.fine(Checks.program("v AT %QW0 : INT; u AT %MW63 : INT; w AT %QW63 : INT;", "v := 1; u := 1; w := 1; FOR v := 1 TO 2 DO END_FOR;"));
        // a block's own cells of these numbers are no places
        Checks.fine(block("VAR v, u : BOOL; END_VAR", "v := TRUE; u := TRUE;") + LEAST);
        Checks.fine(block("VAR k : ARRAY [1 .. 256] OF INT; l : ARRAY [1 .. 256] OF INT; n : ARRAY [1 .. 256] OF INT; v : INT; END_VAR", "v := 1;") + LEAST);
    }

    private static void loopNames() {
        Checks.says("nor (30) the name of a 19 in which it stands.");
        faulty(30, "FOR x := 1 TO 2 DO x \u00b6:= 1; END_FOR;");
        faulty(30, "FOR x := 1 TO 2 DO FOR y := 1 TO 2 DO CASE y OF 1: IF b THEN X \u00b6:= 1; END_IF; END_CASE; END_FOR; END_FOR;");
        fine("x := 1; FOR x := 1 TO 2 DO y := x; END_FOR; x := 1; FOR y := 1 TO 2 DO x := y; END_FOR;");
        Checks.says("29, 30, of its name (also if the 19 in which it stands has it);");
        faulty(30, "FOR x := 1 TO 2 DO \u00b6FOR x := 1 TO 2 DO END_FOR; END_FOR;");
        faulty(30, "FOR x := 1 TO 2 DO FOR y := 1 TO 2 DO \u00b6FOR x := 1 TO 2 DO END_FOR; END_FOR; END_FOR;");
        fine("FOR x := 1 TO 2 DO END_FOR; FOR x := 1 TO 2 DO FOR y := 1 TO 2 DO END_FOR; FOR y := 1 TO 2 DO END_FOR; END_FOR;");
    }

    private static void fitting() {
        Checks.says("A type FITS another one, if it is the same, or INT, the other being DINT.");
        String[] names = {"b", "x", "d"};
        boolean[][] fits = {{true, false, false}, {false, true, true}, {false, false, true}};
        for (int from = 0; from < 3; from++) {
            for (int to = 0; to < 3; to++) {
                String statement = names[to] + " \u00b6:= " + names[from] + ";";
                if (fits[from][to]) {
                    fine(statement.replace("\u00b6", ""));
                } else {
                    faulty(31, statement);
                }
            }
        }
        Checks.says("33: one before in the same 13; 31: the expression does not fit.");
        faulty(33, "t(IN := b, PT := x, \u00b6in := b);");
        faulty(33, "t(PT := x, \u00b6PT := b);");
        fine("t(PT := x, IN := b); t(IN := b);");
        faulty(31, "t(\u00b6IN := x);");
        faulty(31, "t(\u00b6PT := b);");
        faulty(31, "c(\u00b6PV := d);");
        fine("t(PT := d); t(PT := x); c(PV := 32767);");
        faulty(31, "c(\u00b6PV := 32768);");
    }

    private static void inputs() {
        Checks.says("14: 32: no input of the instance's block (but if 13 will break 20 or 21: nothing is asked of its 14s);");
        faulty(32, "t(\u00b6Q := b);");
        faulty(32, "t(\u00b6ET := x);");
        faulty(32, "t(\u00b6CU := b);");
        faulty(32, "t(\u00b6x := 1);");
        faulty(32, "s(\u00b6S := b);");
        String g = block("VAR_INPUT i : INT; END_VAR VAR v : INT; END_VAR VAR_OUTPUT o : INT; END_VAR", "");
        Checks.faulty(32, g + Checks.program("k : g;", "k(\u00b6v := 1);"));
        Checks.faulty(32, g + Checks.program("k : g;", "k(\u00b6o := 1);"));
        Checks.fine(g + Checks.program("k : g;", "k(i := 1);"));
        faulty(20, "\u00b6z(foo := 1, foo := TRUE);");
        faulty(21, "\u00b6x(foo := 1, foo := TRUE);");
        faulty(21, "\u00b6a(IN := 1);");
        // but of what is below them all is asked
        faulty(20, "z(foo := \u00b6u);");
        faulty(28, "x(foo := \u00b6-b);");
        String[][] ports = {{"TON", "IN", "PT"}, {"TOF", "IN", "PT"}, {"TP", "IN", "PT"}, {"CTU", "CU", "R", "PV"}, {"CTD", "CD", "LD", "PV"}, {"R_TRIG", "CLK"},
            {"F_TRIG", "CLK"}, {"SR", "S1", "R"}, {"RS", "S", "R1"}};
        String all = "IN PT Q ET CU R PV CV CD LD CLK S1 S R1 Q1 M L";
        for (String[] port : ports) {
            for (String name : all.split(" ")) {
                boolean isInput = false;
                for (int i = 1; i < port.length; i++) {
                    isInput |= port[i].equals(name);
                }
                String value = name.startsWith("P") ? "1" : "TRUE";
                if (isInput) {
                    Checks.fine(Checks.program("k : " + port[0] + ";", "k(" + name + " := " + value + ");"));
                } else {
                    Checks.faulty(32, Checks.program("k : " + port[0] + ";", "k(\u00b6" + name + " := " + value + ");"));
                }
            }
        }
    }

    private static void conditions() {
        Checks.says("15: 34: an expression that is followed by a 11 is not BOOL. 16: 34: its expression is no number.");
        faulty(34, "\u00b6IF x THEN END_IF;");
        faulty(34, "\u00b6IF 1 THEN END_IF;");
        faulty(34, "\u00b6IF b THEN ELSIF d THEN END_IF;");
        faulty(34, "\u00b6IF b THEN ELSIF b THEN ELSIF x THEN ELSE END_IF;");
        fine("IF b THEN ELSIF x = y THEN ELSIF TRUE THEN ELSE END_IF;");
        faulty(34, "\u00b6CASE b OF END_CASE;");
        faulty(34, "\u00b6CASE x = y OF 1: END_CASE;");
        fine("CASE x OF END_CASE; CASE d OF END_CASE; CASE 1 OF END_CASE;");
    }

    private static void ranges() {
        Checks.says("18: 35: a 31; or the first one is greater.");
        faulty(35, "CASE x OF \u00b6TRUE: END_CASE;");
        faulty(35, "CASE x OF 1, \u00b6FALSE: END_CASE;");
        faulty(35, "CASE x OF \u00b6TRUE .. 1: END_CASE;");
        faulty(35, "CASE x OF \u00b60 .. TRUE: END_CASE;");
        faulty(35, "CASE x OF \u00b61 .. 0: END_CASE;");
        faulty(35, "CASE x OF \u00b6-1 .. -2: END_CASE;");
        faulty(35, "CASE x OF 5, \u00b62147483647 .. -2147483647: END_CASE;");
        faulty(35, "CASE x OF 5: \u00b62147483647 .. 2147483646: END_CASE;");
        fine("CASE x OF 1 .. 1: -2147483647 .. 2147483647: -2 .. -1: 2147483647 .. 2147483647: END_CASE;");
    }

    private static void loops() {
        Checks.says("19: 20, 21; 22: no number;");
        faulty(20, "\u00b6FOR z := TRUE TO 1 DO END_FOR;");
        faulty(21, "\u00b6FOR t := TRUE TO 1 DO END_FOR;");
        faulty(22, "\u00b6FOR b := TRUE TO 1 DO END_FOR;");
        faulty(22, "\u00b6FOR i := 1 TO 1 DO END_FOR;");
        faulty(29, "\u00b6FOR w := TRUE TO 1 DO END_FOR;");
        Checks.says("36: a constant is 31, or not in the type's range; the third is 0;");
        for (String way : new String[] {"TRUE TO 1", "0 TO TRUE", "0 TO 1 BY TRUE", "0 TO 1 BY FALSE", "-32769 TO 0", "32768 TO 0", "0 TO 32768", "0 TO -32769",
            "0 TO 1 BY 32768", "0 TO 1 BY -32769", "0 TO 1 BY 65537", "0 TO 1 BY 0", "1 TO 1 BY 0", "1 TO 0 BY -0"}) {
            faulty(36, "\u00b6FOR x := " + way + " DO END_FOR;");
        }
        fine("FOR x := -32768 TO 32767 DO END_FOR; FOR x := 32767 TO -32768 BY -1 DO END_FOR; FOR x := 0 TO 1 BY 32767 DO END_FOR; FOR x := 0 TO 1 BY -32768 DO END_FOR;");
        fine("FOR d := -32769 TO 32768 BY 32768 DO END_FOR;");
        faulty(36, "\u00b6FOR d := 0 TO 1 BY 0 DO END_FOR;");
    }

    /** How often the loop is gone through, as its COUNT says. */
    private static void times(String way, int times) {
        CodeMaker x = Checks.made(Checks.program(ALL, "FOR d := " + way + " DO END_FOR;"));
        Checks.due("COUNT", x.told(0, 2, 0), 12);
        Checks.due("times of " + way, x.told(0, 2, 2), times);
    }

    private static void loopTimes() {
        Checks.says("there would be more than 1,000,000 times (none, if the third leads away from the second; else their difference by the third, cut off, and one more, reckoned without a bound).");
        for (String way : new String[] {"1 TO 1000001", "0 TO 1000000", "0 TO -1000000 BY -1", "0 TO 2000000 BY 2", "0 TO -2000000 BY -2", "-2147483647 TO 2147483647",
            "2147483647 TO -2147483647 BY -1", "-2147483647 TO 2147483647 BY 4294", "2147483647 TO -2147483647 BY -4294", "-1 TO 2147483647", "0 TO 2147483647"}) {
            faulty(36, "\u00b6FOR d := " + way + " DO END_FOR;");
        }
        times("1 TO 1000000", 1000000);
        times("0 TO 999999", 1000000);
        times("0 TO -999999 BY -1", 1000000);
        times("0 TO 1999999 BY 2", 1000000);
        times("0 TO -1999999 BY -2", 1000000);
        times("-2147483647 TO 2147483647 BY 4295", 999993);
        times("2147483647 TO -2147483647 BY -4295", 999993);
        times("-2147483647 TO 2147483647 BY 2147483647", 3);
        times("1 TO 1", 1);
        times("1 TO 1 BY -1", 1);
        times("1 TO 1 BY 2147483647", 1);
        times("1 TO 2 BY 2", 1);
        times("1 TO 3 BY 2", 2);
        times("1 TO 0 BY -2", 1);
        times("-1 TO 1 BY 3", 1);
        times("1 TO 0", 0);
        times("0 TO 1 BY -1", 0);
        times("2147483647 TO -2147483647", 0);
        times("-2147483647 TO 2147483647 BY -1", 0);
        times("0 TO -1 BY 2147483647", 0);
    }

    private static void exits() {
        Checks.says("20: 37: in no 19.");
        faulty(37, "\u00b6EXIT;");
        faulty(37, "IF b THEN CASE x OF 1: \u00b6EXIT; END_CASE; END_IF;");
        faulty(37, "FOR x := 1 TO 2 DO EXIT; END_FOR; \u00b6EXIT;");
        fine("FOR x := 1 TO 2 DO IF b THEN CASE x OF 1: EXIT; END_CASE; END_IF; END_FOR;");
        Checks.faulty(37, function("VAR v : INT; END_VAR", "FOR v := 1 TO 2 DO END_FOR;") + Checks.program(ALL, "\u00b6EXIT;"));
    }

    private static String rung(String rows) {
        return "LADDER RUNG " + rows + " END_RUNG END_LADDER";
    }

    private static void rungSizes() {
        Checks.says("23: 38: more than 12 rows; a row with more than 12 cells (29 is none), or another number than the first one.");
        fine(rung("-;".repeat(12)));
        faulty(38, "LADDER \u00b6RUNG " + "-;".repeat(13) + " END_RUNG END_LADDER");
        fine(rung("- ".repeat(12) + ";"));
        faulty(38, "LADDER \u00b6RUNG " + "- ".repeat(13) + "; END_RUNG END_LADDER");
        fine(rung(("- | ".repeat(11) + "-;").repeat(11) + "- ".repeat(12) + ";"));
        fine(rung(("- ".repeat(11) + "(b);").repeat(12)));
        faulty(38, "LADDER \u00b6RUNG " + ("- ".repeat(11) + "(b);").repeat(13) + " END_RUNG END_LADDER");
        faulty(38, "LADDER RUNG - -; - -; END_RUNG \u00b6RUNG - -; -; END_RUNG END_LADDER");
        faulty(38, "LADDER \u00b6RUNG -; - -; END_RUNG END_LADDER");
        faulty(38, "LADDER \u00b6RUNG - | -; - -; - - -; END_RUNG END_LADDER");
        faulty(38, "LADDER \u00b6RUNG - | -; -; END_RUNG END_LADDER");
        fine("LADDER RUNG - | -; - -; END_RUNG RUNG -; END_RUNG RUNG * * *; END_RUNG END_LADDER");
    }

    private static void coils() {
        Checks.says("25: 41: not BOOL. 28: 39: not the last in its row; 41: not BOOL; 29, 30 as above.");
        faulty(41, rung("\u00b6x;"));
        faulty(41, rung("- \u00b6>d;"));
        faulty(41, rung("- \u00b6<t.ET;"));
        fine(rung("b t.Q /i;"));
        faulty(39, rung("\u00b6(b) -;"));
        faulty(39, rung("- \u00b6(b) (q);"));
        faulty(39, rung("\u00b6(b) | -; - -;"));
        faulty(41, rung("- \u00b6(x);"));
        faulty(29, rung("- \u00b6(i);"));
        fine(rung("- (b); - (q);"));
        fine(rung("(b); -; (q);"));
        Checks.says("29: 40: in the last row.");
        faulty(40, rung("- \u00b6| -;"));
        faulty(40, rung("- | -; - \u00b6| -;"));
        faulty(40, "LADDER RUNG - \u00b6| -; END_RUNG RUNG - -; - -; END_RUNG END_LADDER");
        faulty(40, "LADDER RUNG - -; END_RUNG RUNG - | -; - \u00b6| -; END_RUNG RUNG - -; END_RUNG END_LADDER");
        fine(rung("- | -; - | -; - -;"));
        fine("LADDER RUNG - | -; - -; END_RUNG RUNG - | -; - -; END_RUNG END_LADDER");
    }

    private static void inputCounts() {
        Checks.says("1 (behind its children): 44: more than 8 inputs.");
        Checks.fine(function("VAR_INPUT a, b, c, d, e, g, h, i : INT; END_VAR VAR j, k : INT; END_VAR", "") + LEAST);
        Checks.faulty(44, "\u00b6" + function("VAR_INPUT a, b, c, d, e, g, h, i, j : INT; END_VAR", "") + LEAST);
        Checks.faulty(44, block("", "") + "\u00b6" + function("VAR_INPUT a, b, c, d : INT; END_VAR VAR v : INT; END_VAR VAR_INPUT e, h, i, j : BOOL; k : DINT; END_VAR", "") + LEAST);
        Checks.faulty(20, function("VAR_INPUT a, b, c, d, e, g, h, i, j : INT; END_VAR", "\u00b6z := 1;") + LEAST);
        Checks.fine(block("VAR_INPUT a, b, c, d, e, f, h, i, j, k : INT; END_VAR", "") + LEAST);
    }

    private static void noProgram() {
        Checks.says("0: 10: there is no PROGRAM.");
        Checks.faulty(10, "\u00b6");
        Checks.faulty(10, "\u00b6  ");
        Checks.faulty(10, "\u00b6" + function("", ""));
        Checks.faulty(10, "\u00b6" + function("", "") + block("", ""));
        // more than 16 blocks, but no PROGRAM
        StringBuilder many = new StringBuilder();
        for (int i = 0; i < 17; i++) {
            many.append("FUNCTION f").append(i).append(" : INT END_FUNCTION ");
        }
        Checks.faulty(10, "\u00b6" + many);
    }

    /** FUNCTIONS with 8 inputs, a LADDER, and so many names in all; and a PROGRAM of 4,096 cells and 156. */
    static String cellsOf(int names) {
        StringBuilder text = new StringBuilder();
        int left = names;
        for (int i = 0; i < 15; i++) {
            int own = Math.min(98, left);
            text.append("FUNCTION f").append(i).append(":INT VAR_INPUT a,b,c,d,e,f,g,h:INT;END_VAR VAR ");
            for (int j = 0; j < own; j++) {
                text.append(j == 0 ? "" : ",").append((char) ('i' + j / 10)).append(j % 10);
            }
            text.append(":INT;END_VAR LADDER END_LADDER END_FUNCTION ");
            left -= own;
        }
        return text + Checks.program("a,b,c,d,e,f,g,h,i,j,k,l:ARRAY[1..256]OF INT;m:ARRAY[1..64]OF INT;", "LADDER END_LADDER");
    }

    private static void allCells() {
        Checks.says("42: the cells of all FUNCTIONS and the PROGRAM are more than 8,192.");
        // 4,096 + 156 of the PROGRAM, 15 times 1 + 8 + 156 of FUNCTIONS, and 1,465 names
        CodeMaker x = Checks.made(cellsOf(1465));
        Checks.due("all cells", x.count(4), 8192);
        Checks.due("the last one", x.set(8191, 5), 0);
        Checks.due("it is there", x.get(8191), 5);
        Checks.due("behind it", x.set(8192, 5), 0);
        Checks.due("there is none", x.get(8192), 0);
        Checks.faulty(42, "\u00b6" + cellsOf(1466));
        Checks.due("one less", Checks.made(cellsOf(1464)).count(4), 8191);
        // a FUNCTION_BLOCK's cells are none of these
        Checks.fine(block("VAR a, b, c, d, e, f, h, i, j, k, l, m, n, o, p, q : ARRAY [1 .. 256] OF INT; END_VAR", "")
            + "FUNCTION_BLOCK z VAR a, b, c, d, e, f, h, i, j, k, l, m, n, o, p, q : ARRAY [1 .. 256] OF INT; END_VAR END_FUNCTION_BLOCK "
            + "PROGRAM y VAR v : INT; END_VAR END_PROGRAM");
    }
}
