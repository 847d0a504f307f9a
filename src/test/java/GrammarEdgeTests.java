/** Each sentence of 'GRAMMAR' that names an edge, with a test of its own: none, one, many; too early; too deep. */
public final class GrammarEdgeTests {
    private static final String ALL = "x, y : INT; b : BOOL; a : ARRAY [0 .. 3] OF INT; t : TON;";
    private static final String LEAST = "PROGRAM p END_PROGRAM";
    private static final String[] BETWEEN = {"OR", "XOR", "AND", "&", "=", "<>", "<", ">", "<=", ">=", "+", "-", "*", "/", "MOD"};

    public static void main(String[] args) {
        blocks();
        sections();
        declarations();
        types();
        constants();
        bodies();
        statements();
        parameters();
        choices();
        operands();
        binding();
        fromTheLeft();
        rungs();
        cells();
        firstBadToken();
        endsTooEarly();
        depthOfWords();
        depthOfOperands();
        depthOfBrackets();
        depthOfSigns();
        depthEnds();
        depthOfOutermost();
        depthIfItCanCome();
        neverOpen();
        Checks.finish("GrammarEdgeTests");
    }

    private static String body(String statements) {
        return Checks.program(ALL, statements);
    }

    private static void fine(String statements) {
        Checks.fine(body(statements));
    }

    private static void cant(String statements) {
        Checks.faulty(6, body(statements));
    }

    private static void blocks() {
        Checks.says("text: {block}.");
        Checks.faulty(10, "\u00b6");
        Checks.faulty(10, "\u00b6 \n (* *) ");
        Checks.fine(LEAST);
        Checks.fine("FUNCTION f : INT END_FUNCTION FUNCTION_BLOCK g END_FUNCTION_BLOCK FUNCTION h : BOOL END_FUNCTION " + LEAST);
        Checks.faulty(6, LEAST + " \u00b6;");
        Checks.faulty(6, LEAST + " \u00b6%IX0");
        Checks.faulty(6, LEAST + " \u00b65");
        Checks.faulty(6, LEAST + " \u00b6p");
        Checks.faulty(6, "\u00b6p");
        Checks.says("block: FUNCTION name ':' simple {section} body END_FUNCTION | FUNCTION_BLOCK name {section} body END_FUNCTION_BLOCK | PROGRAM name {section} body END_PROGRAM.");
        String[] ends = {"END_FUNCTION", "END_FUNCTION_BLOCK", "END_PROGRAM"};
        String[] begins = {"FUNCTION f : INT ", "FUNCTION_BLOCK g ", "PROGRAM p "};
        for (int i = 0; i < 3; i++) {
            for (int j = 0; j < 3; j++) {
                if (i != j) {
                    Checks.faulty(6, begins[i] + "\u00b6" + ends[j]);
                }
            }
        }
        Checks.faulty(6, "FUNCTION f \u00b6END_FUNCTION");
        Checks.faulty(6, "FUNCTION f : \u00b6ARRAY [0 .. 1] OF INT END_FUNCTION");
        Checks.faulty(6, "FUNCTION f : \u00b6TON END_FUNCTION");
        Checks.faulty(6, "FUNCTION_BLOCK g \u00b6: INT END_FUNCTION_BLOCK");
        Checks.faulty(6, "PROGRAM p \u00b6: INT END_PROGRAM");
    }

    private static void sections() {
        Checks.says("section: (VAR | VAR_INPUT | VAR_OUTPUT) {declaration} END_VAR.");
        Checks.fine("PROGRAM p VAR END_VAR END_PROGRAM");
        Checks.fine("PROGRAM p VAR END_VAR VAR x : INT; END_VAR VAR END_VAR END_PROGRAM");
        Checks.fine("FUNCTION_BLOCK g VAR_OUTPUT END_VAR VAR_INPUT END_VAR VAR END_VAR VAR_INPUT x : INT; y : INT; END_VAR END_FUNCTION_BLOCK " + LEAST);
        Checks.faulty(6, "PROGRAM p VAR \u00b6; END_VAR END_PROGRAM");
        Checks.faulty(6, "PROGRAM p VAR x : INT; \u00b6VAR END_VAR END_PROGRAM");
        Checks.faulty(6, "PROGRAM p ; \u00b6VAR END_VAR END_PROGRAM");
        Checks.faulty(6, "PROGRAM p \u00b6END_VAR END_PROGRAM");
    }

    private static void declarations() {
        Checks.says("declaration: name {',' name} [AT place] ':' type [':=' constant] ';'.");
        Checks.fine(Checks.program("x : INT; y, z : INT; a, b, c : INT := 1; d AT %MX0 : BOOL; e AT %MW0 : INT := 1;", ""));
        Checks.faulty(6, Checks.program("x, \u00b6: INT;", ""));
        Checks.faulty(6, Checks.program("\u00b6, x : INT;", ""));
        Checks.faulty(6, Checks.program("x \u00b6y : INT;", ""));
        Checks.faulty(6, Checks.program("x AT \u00b6: BOOL;", ""));
        Checks.faulty(6, Checks.program("x AT \u00b65 : BOOL;", ""));
        Checks.faulty(6, Checks.program("x \u00b6%IX0 : BOOL;", ""));
        Checks.faulty(6, Checks.program("x AT %IX0\u00b6, y : BOOL;", ""));
        Checks.faulty(6, Checks.program("x \u00b6;", ""));
        Checks.faulty(6, Checks.program("x : \u00b6;", ""));
        Checks.faulty(6, Checks.program("x : INT := \u00b6;", ""));
        Checks.faulty(6, Checks.program("x : INT := 1\u00b6, 2;", ""));
        Checks.faulty(6, Checks.program("x : INT := \u00b6y;", ""));
        Checks.faulty(6, "PROGRAM p VAR x : INT \u00b6END_VAR END_PROGRAM");
    }

    private static void types() {
        Checks.says("type: simple | ARRAY '[' constant '..' constant ']' OF simple | name.");
        Checks.fine(Checks.program("a : BOOL; b : INT; c : DINT; d : ARRAY [-1 .. -1] OF BOOL; e : TON;", ""));
        Checks.faulty(6, Checks.program("a : ARRAY \u00b6OF INT;", ""));
        Checks.faulty(6, Checks.program("a : ARRAY [\u00b6] OF INT;", ""));
        Checks.faulty(6, Checks.program("a : ARRAY [5\u00b6] OF INT;", ""));
        Checks.faulty(6, Checks.program("a : ARRAY [5 .. \u00b6] OF INT;", ""));
        for (String sign : new String[] {":=", "<=", ">=", "<>", ".", ",", ":", "-"}) {
            Checks.faulty(6, Checks.program("a : ARRAY [5 \u00b6" + sign + " 6] OF INT;", ""));
        }
        Checks.faulty(6, Checks.program("a : ARRAY [1 .. 2\u00b6, 1 .. 2] OF INT;", ""));
        Checks.faulty(6, Checks.program("a : ARRAY [1 .. 2] \u00b6INT;", ""));
        Checks.faulty(6, Checks.program("a : ARRAY [1 .. 2] OF \u00b6ARRAY [1 .. 2] OF INT;", ""));
        Checks.faulty(6, Checks.program("a : ARRAY [1 .. 2] OF \u00b6TON;", ""));
        Checks.faulty(6, Checks.program("a : ARRAY [\u00b6x .. 2] OF INT;", ""));
    }

    private static void constants() {
        Checks.says("constant: ['-'] number | TRUE | FALSE.");
        Checks.fine(Checks.program("a : INT := 1; b : INT := -1; c : INT := - (* *) 1; d : BOOL := TRUE; e : BOOL := FALSE; f : INT := -0;", ""));
        Checks.faulty(6, Checks.program("a : INT := -\u00b6-1;", ""));
        Checks.faulty(6, Checks.program("a : INT := \u00b6+1;", ""));
        Checks.faulty(6, Checks.program("a : BOOL := -\u00b6TRUE;", ""));
        Checks.faulty(6, Checks.program("a : BOOL := -\u00b6FALSE;", ""));
        Checks.faulty(6, Checks.program("a : BOOL := \u00b6NOT TRUE;", ""));
        Checks.faulty(6, Checks.program("a : INT := \u00b6(1);", ""));
        Checks.faulty(6, Checks.program("a : INT := -\u00b6;", ""));
        Checks.faulty(4, Checks.program("a : DINT := -\u00b62147483648;", ""));
    }

    private static void bodies() {
        Checks.says("body: {statement} | LADDER {rung} END_LADDER.");
        Checks.fine("PROGRAM p LADDER END_LADDER END_PROGRAM");
        Checks.fine("PROGRAM p ; END_PROGRAM");
        Checks.faulty(6, "PROGRAM p LADDER \u00b6; END_LADDER END_PROGRAM");
        Checks.faulty(6, "PROGRAM p LADDER END_LADDER \u00b6LADDER END_LADDER END_PROGRAM");
        Checks.faulty(6, "PROGRAM p ; \u00b6LADDER END_LADDER END_PROGRAM");
        Checks.faulty(6, "PROGRAM p LADDER \u00b6END_PROGRAM");
        Checks.faulty(6, "PROGRAM p \u00b6RUNG END_PROGRAM");
        cant("IF b THEN \u00b6LADDER END_LADDER END_IF;");
    }

    private static void statements() {
        Checks.says("IF expression THEN {statement} {ELSIF expression THEN {statement}} [ELSE {statement}] END_IF ';'");
        fine("IF b THEN END_IF; IF b THEN ELSE END_IF; IF b THEN ELSIF b THEN END_IF; IF b THEN ELSIF b THEN ELSIF b THEN ELSE ; ; END_IF;");
        cant("IF \u00b6THEN END_IF;");
        cant("IF b \u00b6END_IF;");
        cant("IF b THEN ELSE \u00b6ELSE END_IF;");
        cant("IF b THEN ELSE \u00b6ELSIF b THEN END_IF;");
        cant("IF b THEN ELSIF \u00b6THEN END_IF;");
        cant("IF b THEN \u00b6END_CASE;");
        Checks.faulty(6, "PROGRAM p VAR b : BOOL; END_VAR IF b THEN END_IF \u00b6END_PROGRAM");
        Checks.says("CASE expression OF {choice} [ELSE {statement}] END_CASE ';'");
        fine("CASE x OF END_CASE; CASE x OF ELSE END_CASE; CASE x OF 1: END_CASE; CASE x OF 1: 2: ; ; -3: ELSE ; END_CASE;");
        cant("CASE \u00b6OF END_CASE;");
        cant("CASE x OF \u00b6; END_CASE;");
        cant("CASE x OF ELSE \u00b61: END_CASE;");
        cant("CASE x OF ELSE \u00b6ELSE END_CASE;");
        cant("CASE x OF 1: \u00b6END_IF;");
        Checks.says("FOR name ':=' constant TO constant [BY constant] DO {statement} END_FOR ';' | EXIT ';' | RETURN ';'.");
        fine("FOR x := 1 TO 2 DO END_FOR; FOR x := -1 TO -2 BY -3 DO ; EXIT; RETURN; END_FOR;");
        cant("FOR x := \u00b6y TO 2 DO END_FOR;");
        cant("FOR x := 1 TO 2\u00b6+3 DO END_FOR;");
        cant("FOR x := 1 TO 2 BY \u00b6DO END_FOR;");
        cant("FOR x \u00b6TO 2 DO END_FOR;");
        cant("FOR a\u00b6[0] := 1 TO 2 DO END_FOR;");
        cant("FOR x := 1 \u00b6DO END_FOR;");
        cant("EXIT\u00b6(); ");
        cant("RETURN \u00b6x;");
        Checks.says("statement: ';' | name ':=' expression ';' | name '[' expression ']' ':=' expression ';'");
        fine(";;; x := 1; a[0] := 1;");
        cant("x := \u00b6;");
        for (String sign : new String[] {"=", "..", "<=", ">=", "<>", ":", "."}) {
            cant("x \u00b6" + sign + " 1;");
        }
        cant("x \u00b6;");
        cant("a[\u00b6] := 1;");
        cant("a[0] \u00b6;");
        cant("a[0]\u00b6[0] := 1;");
        cant("t\u00b6.IN := b;");
        cant("\u00b65 := x;");
        cant("\u00b6(x) := 5;");
        cant("x := 1\u00b6:= 2;");
        cant("\u00b6:= 2;");
    }

    private static void parameters() {
        Checks.says("name '(' [parameter {',' parameter}] ')' ';'");
        fine("t(); t(IN := b); t(IN := b, PT := x);");
        cant("t(\u00b6, IN := b);");
        cant("t(IN := b, \u00b6);");
        cant("t(IN := b \u00b6PT := x);");
        cant("t() \u00b6:= 5;");
        cant("t()\u00b6.Q;");
        Checks.says("parameter: name ':=' expression.");
        cant("t(\u00b65);");
        cant("t(IN\u00b6);");
        cant("t(IN \u00b6= b);");
        cant("t(IN := \u00b6);");
        cant("t(IN\u00b6[0] := b);");
    }

    private static void choices() {
        Checks.says("choice: range {',' range} ':' {statement}.");
        fine("CASE x OF 1: 2, 3: 4, 5 .. 6, -7 .. -7: x := 1; x := 2; END_CASE;");
        cant("CASE x OF 1 \u00b6x := 1; END_CASE;");
        cant("CASE x OF 1, \u00b6: END_CASE;");
        cant("CASE x OF \u00b6, 1: END_CASE;");
        cant("CASE x OF \u00b6: END_CASE;");
        Checks.says("range: constant ['..' constant].");
        cant("CASE x OF 1 .. \u00b6: END_CASE;");
        cant("CASE x OF \u00b6.. 1: END_CASE;");
        cant("CASE x OF 1 .. 2 \u00b6.. 3: END_CASE;");
        cant("CASE x OF 1 \u00b6+ 2: END_CASE;");
    }

    private static void operands() {
        Checks.says("operand: '-' operand | NOT operand | number | TRUE | FALSE | '(' expression ')' | name | name '[' expression ']' | name '.' name | name '(' [expression {',' expression}] ')'.");
        fine("x := - - - 1; b := NOT NOT NOT TRUE; b := FALSE; x := ((x)); x := a[a[0]]; b := t.Q; x := MIN(x, MAX(x, y)); x := -(-x); x := x - -x;");
        cant("x := (\u00b6);");
        cant("x := (x\u00b6;");
        cant("x := x\u00b6);");
        cant("x := a[\u00b6];");
        cant("x := a[0\u00b6);");
        cant("x := a[0\u00b6, 1];");
        cant("x := a[0]\u00b6[1];");
        cant("x := t.\u00b65;");
        cant("x := t.\u00b6IF;");
        cant("x := t.Q\u00b6.Q;");
        cant("x := MIN(\u00b6, 1);");
        cant("x := MIN(1, \u00b6);");
        cant("x := MIN(1 \u00b62);");
        cant("x := MIN(1)\u00b6(2);");
        cant("x := MIN(x \u00b6:= 1);");
        cant("x := 1\u00b6(2);");
        cant("x := TRUE\u00b6(2);");
        cant("x := \u00b6+x;");
        cant("x := x + \u00b6;");
        cant("x := x + \u00b6* x;");
        cant("x := x \u00b6NOT x;");
        cant("x := \u00b6%IX0;");
        // a call without expressions is read; a standard function wants some, a FUNCTION may want none
        Checks.faulty(25, body("x := \u00b6MIN();"));
        Checks.fine("FUNCTION f : INT END_FUNCTION " + body("x := f();"));
    }

    private static void binding() {
        Checks.says("expression: operands with OR; XOR; AND or &; = <>; < > <= >=; + -; * / MOD between, the later named ones binding closer,");
        codeOf("b", "OR", "XOR", "TWO 12, TWO 11");
        codeOf("b", "XOR", "OR", "TWO 12| TWO 11");
        codeOf("b", "XOR", "AND", "TWO 10, TWO 12");
        codeOf("b", "AND", "XOR", "TWO 10| TWO 12");
        codeOf("b", "AND", "=", "TWO 13, TWO 10");
        codeOf("b", "<>", "AND", "TWO 14| TWO 10");
        codeOf("b", "OR", "&", "TWO 10, TWO 11");
        codeOf("b", "AND", "<>", "TWO 14, TWO 10");
        codeOf("b", "XOR", "&", "TWO 10, TWO 12");
        Checks.code(body("b := b = x < y;"), "LOAD 962, LOAD 960, LOAD 961, TWO 15, TWO 13, STORE 962");
        Checks.code(body("b := b <> x >= y;"), "LOAD 962, LOAD 960, LOAD 961, TWO 18, TWO 14, STORE 962");
        Checks.code(body("b := x > y = b;"), "LOAD 960, LOAD 961, TWO 16, LOAD 962, TWO 13, STORE 962");
        String[] compares = {"<", ">", "<=", ">="};
        for (int i = 0; i < compares.length; i++) {
            int number = 15 + i;
            Checks.code(body("b := x " + compares[i] + " y + x;"), "LOAD 960, LOAD 961, LOAD 960, TWO 0, TWO " + number + ", STORE 962");
            Checks.code(body("b := x - y " + compares[i] + " x;"), "LOAD 960, LOAD 961, TWO 1, LOAD 960, TWO " + number + ", STORE 962");
            Checks.code(body("b := b = x " + compares[i] + " y;"), "LOAD 962, LOAD 960, LOAD 961, TWO " + number + ", TWO 13, STORE 962");
            Checks.code(body("b := x " + compares[i] + " y <> b;"), "LOAD 960, LOAD 961, TWO " + number + ", LOAD 962, TWO 14, STORE 962");
        }
        // the loosest one may stand wherever an expression may
        fine("x := (x OR y) * x; x := a[x OR y]; a[x OR y] := x OR y; x := MIN(x OR y, x OR y); t(IN := b OR b, PT := x OR y);");
        fine("IF b OR b THEN ELSIF b OR b THEN END_IF; CASE x OR y OF END_CASE; x := -(x OR y);");
        codeOf("x", "+", "*", "TWO 2, TWO 0");
        codeOf("x", "-", "/", "TWO 3, TWO 1");
        codeOf("x", "+", "MOD", "TWO 4, TWO 0");
        codeOf("x", "*", "-", "TWO 2| TWO 1");
        codeOf("x", "MOD", "+", "TWO 4| TWO 0");
        // what stands before an operand binds closest
        Checks.code(body("x := -x * y;"), "LOAD 960, ONE 0, LOAD 961, TWO 2, STORE 960");
        Checks.code(body("b := NOT b AND b;"), "LOAD 962, ONE 2, LOAD 962, TWO 10, STORE 962");
        Checks.code(body("x := x * -y;"), "LOAD 960, LOAD 961, ONE 0, TWO 2, STORE 960");
    }

    /** v := v first v second v; the two instructions are both at the end, or the first one before the last operand. */
    private static void codeOf(String v, String first, String second, String two) {
        String load = v.equals("x") ? "LOAD 960, " : "LOAD 962, ";
        String[] parts = two.split("\\| ");
        String want = parts.length == 1 ? load + load + load + two : load + load + parts[0] + ", " + load + parts[1];
        Checks.code(body(v + " := " + v + " " + first + " " + v + " " + second + " " + v + ";"), want + ", STORE " + (v.equals("x") ? 960 : 962));
    }

    private static void fromTheLeft() {
        Checks.says("those named together from the left on.");
        codeOf("b", "OR", "OR", "TWO 11| TWO 11");
        codeOf("b", "XOR", "XOR", "TWO 12| TWO 12");
        codeOf("b", "AND", "&", "TWO 10| TWO 10");
        codeOf("b", "=", "<>", "TWO 13| TWO 14");
        codeOf("b", "<>", "=", "TWO 14| TWO 13");
        codeOf("x", "-", "+", "TWO 1| TWO 0");
        codeOf("x", "-", "-", "TWO 1| TWO 1");
        codeOf("x", "/", "*", "TWO 3| TWO 2");
        codeOf("x", "MOD", "/", "TWO 4| TWO 3");
        // x < y is a BOOL, which is no number
        Checks.faulty(27, body("b := x < y \u00b6< x;"));
        Checks.faulty(27, body("b := x >= y \u00b6> x;"));
    }

    private static void rungs() {
        Checks.says("rung: RUNG row {row} END_RUNG. row: cell {['|'] cell} ';'.");
        fine("LADDER RUNG b; END_RUNG RUNG b b; b b; b b; END_RUNG RUNG b | b; b b; END_RUNG END_LADDER");
        cant("LADDER RUNG \u00b6END_RUNG END_LADDER");
        cant("LADDER RUNG \u00b6; END_RUNG END_LADDER");
        cant("LADDER RUNG b; \u00b6; END_RUNG END_LADDER");
        cant("LADDER RUNG b \u00b6END_RUNG END_LADDER");
        cant("LADDER RUNG \u00b6| b; END_RUNG END_LADDER");
        cant("LADDER RUNG b | \u00b6; END_RUNG END_LADDER");
        cant("LADDER RUNG b | \u00b6| b; END_RUNG END_LADDER");
        cant("LADDER RUNG b; \u00b6RUNG b; END_RUNG END_LADDER");
        cant("LADDER RUNG b; END_RUNG\u00b6; END_LADDER");
        cant("LADDER RUNG b; \u00b6END_LADDER");
    }

    private static void cells() {
        Checks.says("cell: ['/' | '>' | '<'] name ['.' name] | '-' | '*' | '(' ['/' | '+' | '-'] name ')'.");
        fine("LADDER RUNG b /b >b <b t.Q /t.Q >t.Q <t.Q - * (b); END_RUNG RUNG (/b); (+b); (-b); END_RUNG END_LADDER");
        cant("LADDER RUNG /\u00b6/b; END_RUNG END_LADDER");
        cant("LADDER RUNG >\u00b6<b; END_RUNG END_LADDER");
        cant("LADDER RUNG \u00b6<>b; END_RUNG END_LADDER");
        cant("LADDER RUNG \u00b6+b; END_RUNG END_LADDER");
        cant("LADDER RUNG /\u00b6-; END_RUNG END_LADDER");
        cant("LADDER RUNG /\u00b6(b); END_RUNG END_LADDER");
        cant("LADDER RUNG t.\u00b6-; END_RUNG END_LADDER");
        cant("LADDER RUNG -\u00b6.Q; END_RUNG END_LADDER");
        cant("LADDER RUNG a\u00b6[0]; END_RUNG END_LADDER");
        cant("LADDER RUNG \u00b6TRUE; END_RUNG END_LADDER");
        cant("LADDER RUNG (\u00b6); END_RUNG END_LADDER");
        cant("LADDER RUNG (\u00b6>b); END_RUNG END_LADDER");
        cant("LADDER RUNG ( \u00b6* ); END_RUNG END_LADDER");
        cant("LADDER RUNG (/\u00b6/b); END_RUNG END_LADDER");
        cant("LADDER RUNG (t\u00b6.Q); END_RUNG END_LADDER");
        cant("LADDER RUNG (b\u00b6; END_RUNG END_LADDER");
        cant("LADDER RUNG b \u00b6); END_RUNG END_LADDER");
    }

    private static void firstBadToken() {
        Checks.says("The first token that is badly written (its fault), or can't come, as no text of the grammar begins with all before it and it, is told: FAULT 6 where it begins,");
        Checks.faulty(6, "\u00b6; 5x (* %");
        Checks.faulty(1, "PROGRAM \u00b6! ;");
        Checks.faulty(2, "PROGRAM \u00b6(* ;");
        Checks.faulty(3, "\u00b6" + "a".repeat(33) + " 5x");
        Checks.faulty(4, "\u00b65x 6x");
        Checks.faulty(5, "\u00b6%; 6x");
        // bad tokens are told where nothing like them could come, and come before what they might be
        Checks.faulty(4, "PROGRAM p END_PROGRAM \u00b65x");
        Checks.faulty(3, "PROGRAM p VAR x : INT; END_VAR x := 1 \u00b6" + "y".repeat(33) + ";");
        Checks.faulty(5, "PROGRAM p \u00b6%IX256");
        // reading is over with the first one, so no rule is asked
        Checks.faulty(6, "PROGRAM abs VAR x : foo; x : INT; END_VAR y := TRUE + 1; \u00b6) END_PROGRAM");
        Checks.faulty(1, "PROGRAM abs VAR x : foo; END_VAR END_PROGRAM \u00b6$");
    }

    private static void endsTooEarly() {
        Checks.says("at the text's end (how many bytes it has) if the text ends too early.");
        Checks.faulty(6, "PROGRAM\u00b6");
        Checks.faulty(6, "PROGRAM   \u00b6");
        Checks.faulty(6, "PROGRAM p END_PROGRA\u00b6");
        Checks.faulty(6, "PROGRAM p END_PROGRA (* *)\u00b6");
        Checks.faulty(6, "FUNCTION\u00b6");
        Checks.faulty(6, "PROGRAM p" + " ".repeat(8192 - 9) + "\u00b6");
        Checks.faulty(6, "PROGRAM p END_PROGRAM FUNCTION f\u00b6");
    }

    /** Sixty of these are open and the text ends too early; one more is too deep where MARK stands in it. */
    private static void opens(String before, String part) {
        opens(before, part, 60);
    }

    private static void opens(String before, String marked, int most) {
        String start = "PROGRAM p VAR x : INT; END_VAR " + before;
        String part = marked.replace("\u00b6", "");
        Checks.faulty(6, start + part.repeat(most) + "\u00b6");
        Checks.faulty(7, start + part.repeat(most) + marked);
        Checks.faulty(7, start + part.repeat(most) + marked + part.repeat(100));
    }

    private static void depthOfWords() {
        Checks.says("DEPTH: IF, CASE, FOR,");
        opens("", "\u00b6IF b THEN ");
        opens("", "\u00b6IF b THEN ELSE ");
        opens("", "\u00b6IF b THEN ELSIF b THEN ");
        opens("", "\u00b6CASE x OF 1: ");
        opens("", "\u00b6FOR x := 1 TO 2 DO ");
        Checks.faulty(7, "PROGRAM p " + "IF b THEN CASE x OF 1: FOR x := 1 TO 2 DO ".repeat(20) + "\u00b6IF");
        Checks.faulty(7, "PROGRAM p " + "IF b THEN CASE x OF ELSE FOR x := 1 TO 2 DO ".repeat(20) + "\u00b6CASE");
    }

    private static void depthOfOperands() {
        Checks.says("'-' and NOT before operands,");
        opens("x := ", "\u00b6-");
        opens("x := ", "\u00b6NOT ");
        Checks.faulty(7, "PROGRAM p x := " + "- NOT ".repeat(30) + "\u00b6-");
        Checks.faulty(7, "PROGRAM p x := " + "- NOT ".repeat(30) + "\u00b6NOT");
    }

    private static void depthOfBrackets() {
        Checks.says("and '(' and '[' in statements (but '(' of a cell) are open until what they begin ends,");
        opens("x := ", "\u00b6(");
        opens("x := ", "a\u00b6[");
        opens("x := ", "f\u00b6(");
        opens("a[", "a\u00b6[", 59);
        opens("a[", "\u00b6(", 59);
        opens("t(IN := ", "\u00b6(", 59);
        opens("t(IN := b, PT := ", "f\u00b6(", 59);
        opens("IF ", "\u00b6(", 59);
        opens("CASE ", "\u00b6(", 59);
        Checks.faulty(7, body("IF b THEN ".repeat(60) + "a\u00b6[0] := 1;"));
        Checks.faulty(7, body("IF b THEN ".repeat(60) + "t\u00b6(IN := b);"));
        Checks.faulty(6, "PROGRAM p LADDER RUNG " + "(b) ; ".repeat(200) + "\u00b6");
        Checks.faulty(6, "PROGRAM p LADDER RUNG " + "(b) ".repeat(200) + "\u00b6");
    }

    private static void depthOfSigns() {
        Checks.says("signs and words between operands until the outermost expression ends in which they stand");
        for (String sign : BETWEEN) {
            opens("x := ", "x \u00b6" + sign + " ");
            opens("a[", "x \u00b6" + sign + " ", 59);
            opens("x := a[", "x \u00b6" + sign + " ", 59);
            opens("x := f(", "x \u00b6" + sign + " ", 59);
            opens("t(IN := ", "x \u00b6" + sign + " ", 59);
            opens("IF ", "x \u00b6" + sign + " ", 59);
        }
        // what is within brackets that have ended stays open
        Checks.faulty(6, "PROGRAM p x := " + "(x + x) * ".repeat(30) + "\u00b6");
        Checks.faulty(7, "PROGRAM p x := " + "(x + x) * ".repeat(30) + "\u00b6(");
        Checks.faulty(7, "PROGRAM p x := " + "(x + x) * ".repeat(30) + "x \u00b6-");
    }

    private static void depthEnds() {
        Checks.says("are open until what they begin ends,");
        // one that has ended makes room for one more, and no more
        Checks.faulty(6, "PROGRAM p " + "IF b THEN ".repeat(60) + "END_IF; IF b THEN \u00b6");
        Checks.faulty(7, "PROGRAM p " + "IF b THEN ".repeat(60) + "END_IF; IF b THEN \u00b6IF b THEN");
        Checks.faulty(6, "PROGRAM p " + "CASE x OF 1: ".repeat(60) + "END_CASE; CASE x OF 1: \u00b6");
        Checks.faulty(7, "PROGRAM p " + "CASE x OF 1: ".repeat(60) + "END_CASE; CASE x OF 1: \u00b6CASE");
        Checks.faulty(6, "PROGRAM p " + "FOR x := 1 TO 2 DO ".repeat(60) + "END_FOR; FOR x := 1 TO 2 DO \u00b6");
        Checks.faulty(7, "PROGRAM p " + "FOR x := 1 TO 2 DO ".repeat(60) + "END_FOR; FOR x := 1 TO 2 DO \u00b6FOR");
        Checks.faulty(7, "PROGRAM p x := " + "(".repeat(60) + "x) + \u00b6(");
        Checks.faulty(6, "PROGRAM p x := " + "(".repeat(60) + "x)) + (\u00b6");
        Checks.faulty(7, "PROGRAM p x := " + "a[".repeat(60) + "x] + a\u00b6[");
        Checks.faulty(7, "PROGRAM p x := " + "f(".repeat(60) + "x) + f\u00b6(");
        Checks.faulty(6, "PROGRAM p x := " + "f(".repeat(60) + "x), f(\u00b6");
        Checks.faulty(7, "PROGRAM p x := " + "f(".repeat(60) + "x), f(f\u00b6(");
        // - and NOT end with their operand, before the sign behind it
        Checks.faulty(6, "PROGRAM p x := " + "-".repeat(60) + "x" + " + x".repeat(60) + "\u00b6");
        Checks.faulty(7, "PROGRAM p x := " + "-".repeat(60) + "x" + " + x".repeat(60) + " \u00b6+");
        Checks.faulty(6, "PROGRAM p x := " + "x + ".repeat(59) + "NOT x" + "\u00b6");
        Checks.faulty(6, "PROGRAM p x := " + "x + ".repeat(59) + "-x + \u00b6");
        Checks.faulty(7, "PROGRAM p x := " + "x + ".repeat(60) + "\u00b6-");
        Checks.faulty(6, "PROGRAM p " + "t(); ".repeat(61) + "a[0] := a[0]; ".repeat(61) + "x := -f(x) + 1; ".repeat(61) + "\u00b6");
    }

    private static void depthOfOutermost() {
        Checks.says("(an index, or an operand of a call, is within the one around it; those of parameters, and the index before :=, are outermost ones);");
        String signs = " + x".repeat(58);
        Checks.fine(body("x := a[x" + signs + "] + x + x;"));
        Checks.faulty(7, body("x := a[x" + signs + "] + x + x \u00b6+ x;"));
        Checks.fine(body("x := MIN(x" + signs + ", x + x);"));
        Checks.faulty(7, body("x := MIN(x" + signs + ", x + x \u00b6+ x);"));
        // a parameter's signs are over with it, and so are those of the index before :=
        Checks.fine(body("t(IN := b" + " OR b".repeat(59) + ", PT := x" + " + x".repeat(59) + ");"));
        Checks.faulty(7, body("t(IN := b" + " OR b".repeat(59) + ", PT := x" + " + x".repeat(59) + " \u00b6+ x);"));
        Checks.fine(body("a[x" + " + x".repeat(59) + "] := x" + " + x".repeat(60) + ";"));
        Checks.faulty(7, body("a[x" + " + x".repeat(59) + "] := x" + " + x".repeat(60) + " \u00b6+ x;"));
        // so are those of a condition behind which statements come
        Checks.fine(body("IF b" + " OR b".repeat(59) + " THEN x := x" + " + x".repeat(59) + "; ELSIF b" + " OR b".repeat(59) + " THEN x := x" + " + x".repeat(59)
            + "; ELSIF b" + " OR b".repeat(59) + " THEN END_IF; x := x" + " + x".repeat(60) + ";"));
        Checks.fine(body("CASE x" + " + x".repeat(59) + " OF 1: x := x" + " + x".repeat(59) + "; END_CASE;"));
    }

    private static void depthIfItCanCome() {
        Checks.says("the token that would be open as the 61st, if it can come, is FAULT 7 where it begins, be it a ( that ends at once.");
        Checks.faulty(7, body("IF b THEN ".repeat(60) + "t\u00b6();"));
        Checks.faulty(7, body("IF b THEN ".repeat(60) + "x := f\u00b6();"));
        Checks.faulty(6, body("IF b THEN ".repeat(60) + "x := 1\u00b6();"));
        Checks.faulty(6, body("IF b THEN ".repeat(60) + "\u00b6("));
        Checks.faulty(6, body("IF b THEN ".repeat(60) + "x \u00b6NOT"));
        Checks.faulty(6, body("x := " + "(".repeat(60) + "\u00b6)"));
        Checks.faulty(7, body("x := " + "(".repeat(60) + "x \u00b6("));
        Checks.faulty(7, body("x := " + "(".repeat(60) + "x \u00b6["));
        Checks.faulty(6, body("x := " + "(".repeat(60) + "1 \u00b6("));
        Checks.faulty(6, body("x := " + "(".repeat(60) + "1 \u00b6["));
        Checks.faulty(6, body("x := " + "(".repeat(60) + "\u00b6+"));
        Checks.faulty(6, body("x := " + "(".repeat(60) + "\u00b6IF"));
        Checks.faulty(1, body("x := " + "(".repeat(60) + "\u00b6!"));
        Checks.faulty(2, body("x := " + "(".repeat(60) + "\u00b6(*"));
        // what opens nothing may come there
        Checks.fine(body("IF b THEN ".repeat(60) + "x := 1; RETURN; x := y; b := t.Q; " + "END_IF; ".repeat(60)));
    }

    private static void neverOpen() {
        Checks.says("(The '-' of a constant and the '[' of an ARRAY are never open.)");
        Checks.fine(body("IF b THEN ".repeat(59) + "CASE x OF -1, -2 .. -1: END_CASE; " + "END_IF; ".repeat(59)));
        Checks.fine(body("IF b THEN ".repeat(59) + "FOR x := -1 TO -2 BY -3 DO END_FOR; " + "END_IF; ".repeat(59)));
        Checks.faulty(7, body("IF b THEN ".repeat(60) + "x := \u00b6-1;"));
        StringBuilder arrays = new StringBuilder();
        for (int i = 0; i < 70; i++) {
            arrays.append("a").append(i).append(" : ARRAY [-1 .. -1] OF INT := -1; ");
        }
        Checks.fine(Checks.program(arrays.toString(), ""));
    }
}
