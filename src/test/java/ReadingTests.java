/** Promise 5: tokens, grammar and depth, faults 1 to 7. */
public final class ReadingTests {
    private static final String D = "d : DINT;";

    public static void main(String[] args) {
        blanks();
        names();
        numbers();
        places();
        signs();
        grammar();
        everyBeginning();
        depth();
        Checks.finish("ReadingTests");
    }

    private static void number(String written, int means) {
        CodeMaker x = Checks.made(Checks.program(D, "d := " + written + ";"));
        Checks.due(written + " means", x.told(0, 0, 1), means);
    }

    private static void badNumber(String written) {
        Checks.faulty(4, "PROGRAM p VAR d : DINT; END_VAR d := \u00b6" + written + "; END_PROGRAM");
    }

    private static void blanks() {
        Checks.fine("\t\n\r (**)PROGRAM(* x *)p(*)*)END_PROGRAM(* * ) ( **)");
        Checks.faulty(2, "\u00b6(*");
        Checks.faulty(2, "PROGRAM p \u00b6(*) END_PROGRAM");
        Checks.faulty(2, "PROGRAM p END_PROGRAM (* (* *) \u00b6(* *");
        Checks.faulty(1, "PROGRAM p \u00b6\u000b END_PROGRAM");
        Checks.faulty(1, "PROGRAM p \u00b6\0 END_PROGRAM");
        Checks.faulty(6, "PROGRAM \u00b6VAR (*");
    }

    private static void names() {
        String longest = "abcdefghijklmnopqrstuvwxyz_01234";
        Checks.fine("program " + longest + " var X : int; End_Var x := 1; END_program");
        Checks.faulty(3, "PROGRAM \u00b6" + longest + "5 END_PROGRAM");
        Checks.faulty(6, "PROGRAM \u00b6If END_PROGRAM");
        Checks.faulty(12, "PROGRAM p VAR ab, \u00b6aB : INT; END_VAR END_PROGRAM");
        Checks.fine(Checks.program("_ : INT; __ : INT; t : INT; T1 : INT;", "_ := __ + t;"));
        Checks.faulty(1, "PROGRAM p VAR bT\u00b6#5S : INT; END_VAR END_PROGRAM");
    }

    private static void numbers() {
        number("0", 0);
        number("007", 7);
        number("2147483647", 2147483647);
        number("16#fF", 255);
        number("00016#7FFFFFFF", 2147483647);
        number("2#101", 5);
        number("02#0", 0);
        number("T#5MS", 5);
        number("t#5s", 5000);
        number("T#5m", 300000);
        number("T#2H", 7200000);
        number("T#596h", 2145600000);
        String[] bad = {"2147483648", "99999999999999999999999", "16#80000000", "3#1", "16#", "16#G", "2#", "2#2", "2#12",
            "2#1A", "16#F_", "5a", "5_", "T#", "T#s", "T#5", "T#5x", "T#5 ms", "T#5msx", "T#5s1", "T#5h_", "T#597h",
            "T#2147483648ms", "T#999999999999999999999h", "1T#5s", "160#1", "0#1"};
        for (String written : bad) {
            badNumber(written);
        }
    }

    private static void places() {
        Checks.fine(Checks.program("a AT %IX0 : BOOL; b AT %qx255 : BOOL; c AT %Mx007 : BOOL; d AT %iw0 : INT; e AT %QW63 : INT; f AT %MW63 : INT;", ""));
        String[] bad = {"%", "%IX", "%I0", "%IB0", "%AX0", "%IX256", "%IW64", "%MX99999999999", "%IX0a", "%IX0_", "% IX0", "%IX 0"};
        for (String written : bad) {
            Checks.faulty(5, "PROGRAM p VAR a AT \u00b6" + written + " : BOOL; END_VAR END_PROGRAM");
        }
    }

    private static void signs() {
        Checks.code(Checks.program("b : BOOL; x : INT;", "b:=x<=1;b:=x>=1;b:=x<>1;b:=x<1;b:=x>1;b:=x=1;b:=b&b;"),
            "LOAD 961, PUSH 1, TWO 17, STORE 960, LOAD 961, PUSH 1, TWO 18, STORE 960, LOAD 961, PUSH 1, TWO 14, STORE 960, "
            + "LOAD 961, PUSH 1, TWO 15, STORE 960, LOAD 961, PUSH 1, TWO 16, STORE 960, LOAD 961, PUSH 1, TWO 13, STORE 960, "
            + "LOAD 960, LOAD 960, TWO 10, STORE 960");
        for (String sign : new String[] {"#", "$", "@", "!", "?", "\"", "'", "{", "}", "\\", "^", "~", "`", "\u0080", "\u00ff"}) {
            Checks.faulty(1, "PROGRAM p \u00b6" + sign + " END_PROGRAM");
        }
        Checks.faulty(6, Checks.program(D, "d :=\u00b6= 1;"));
        Checks.faulty(6, Checks.program("a : ARRAY [1 ..\u00b6. 2] OF INT;", ""));
        Checks.faulty(6, Checks.program("b : BOOL;", "b := b <>\u00b6= b;"));
    }

    private static void grammar() {
        Checks.faulty(6, "\u00b6;");
        Checks.faulty(6, "PROGRAM\u00b6");
        Checks.faulty(6, "PROGRAM p \u00b6");
        Checks.faulty(6, "PROGRAM p END_PROGRAM \u00b6END_PROGRAM");
        Checks.faulty(6, "PROGRAM p \u00b6END_FUNCTION");
        Checks.faulty(6, "FUNCTION f \u00b6END_FUNCTION");
        Checks.faulty(6, "FUNCTION f : \u00b6TON END_FUNCTION");
        Checks.faulty(6, "PROGRAM p ; \u00b6VAR END_VAR END_PROGRAM");
        Checks.faulty(6, Checks.program("d : DINT := 5 \u00b6+ 5;", ""));
        Checks.faulty(6, Checks.program("d : DINT := -\u00b6TRUE;", ""));
        Checks.faulty(6, Checks.program(D, "d \u00b6;"));
        Checks.faulty(6, "PROGRAM p VAR d : DINT; END_VAR d := 1 \u00b6END_PROGRAM");
        Checks.faulty(6, Checks.program(D, "IF TRUE THEN ELSE \u00b6ELSIF"));
        Checks.faulty(6, Checks.program(D, "CASE 1 OF ELSE \u00b61: END_CASE;"));
        Checks.faulty(6, Checks.program(D, "CASE 1 OF \u00b6d := 1; END_CASE;"));
        Checks.faulty(6, Checks.program(D, "FOR d := 1 TO \u00b6d DO END_FOR;"));
        Checks.faulty(6, Checks.program("t : TON;", "t(IN := TRUE,\u00b6);"));
        Checks.faulty(6, Checks.program(D, "d := MAX(1,\u00b6);"));
        Checks.faulty(6, Checks.program(D, "d := 1\u00b6.5;"));
        Checks.faulty(6, Checks.program(D, "LADDER RUNG \u00b6END_RUNG END_LADDER"));
        Checks.faulty(6, Checks.program(D, "LADDER RUNG \u00b6| b ; END_RUNG END_LADDER"));
        Checks.faulty(6, Checks.program(D, "LADDER RUNG b | \u00b6; END_RUNG END_LADDER"));
        Checks.faulty(6, Checks.program(D, "LADDER RUNG / \u00b6- ; END_RUNG END_LADDER"));
        Checks.faulty(6, Checks.program(D, "LADDER RUNG ( \u00b6> b) ; END_RUNG END_LADDER"));
        Checks.faulty(6, Checks.program(D, "LADDER RUNG (t\u00b6.Q) ; END_RUNG END_LADDER"));
        Checks.faulty(6, Checks.program(D, "LADDER END_LADDER \u00b6;"));
        // a bad token is told as such, even if nothing like it can come; what is behind is not read
        Checks.faulty(4, "PROGRAM \u00b65x END_PROGRAM (*");
        Checks.faulty(6, "PROGRAM p VAR \u00b6VAR 5x");
    }

    /** A text of all that there is: each beginning of it lacks just its end. */
    private static void everyBeginning() {
        String[] tokens = ("FUNCTION f : BOOL VAR_INPUT a : INT ; END_VAR f := a > 1 ; END_FUNCTION FUNCTION_BLOCK g VAR_OUTPUT q "
            + ": BOOL ; END_VAR VAR t : TON ; x , y : INT ; r : ARRAY [ - 1 .. 2 ] OF DINT := - 3 ; END_VAR IF NOT q THEN ; ELSIF f ( "
            + "1 ) THEN t ( IN := q , PT := T#5s ) ; t ( ) ; ELSE RETURN ; END_IF ; CASE 1 + 2 * 3 OF 1 , - 2 .. 3 : r [ 1 ] := - 2 ; "
            + "5 : ELSE x := MIN ( x , y ) ; END_CASE ; FOR x := 1 TO 2 BY 3 DO EXIT ; END_FOR ; q := t . Q AND ( x < 5 ) ; "
            + "END_FUNCTION_BLOCK PROGRAM p VAR i AT %MX1 : BOOL := TRUE ; t : TON ; END_VAR LADDER RUNG i | / i > t . Q < i ; - - * | "
            + "( + i ) ; * * - ( - i ) ; END_RUNG END_LADDER END_PROGRAM").split(" ");
        Checks.fine(String.join(" ", tokens));
        StringBuilder beginning = new StringBuilder();
        for (int i = 0; i < tokens.length - 1; i++) {
            beginning.append(tokens[i]).append(' ');
            if (!tokens[i].equals("END_FUNCTION") && !tokens[i].equals("END_FUNCTION_BLOCK")) {
                Checks.faulty(6, beginning.toString() + Checks.MARK);
                Checks.faulty(1, beginning.toString() + Checks.MARK + "# " + tokens[i + 1]);
                Checks.faulty(6, beginning.toString() + Checks.MARK + (tokens[i].equals("AT") ? "AT" : "%IX1"));
            }
        }
    }

    private static void depth() {
        String x = "x : INT; b : BOOL; a : ARRAY [0 .. 3] OF INT; t : TON;";
        deep(x, "x := ", "-", "-", "x;", "");
        deep(x, "x := ", "(", "(", "x", ")", ";");
        deep(x, "x := ", "x + ", "+ ", "x;", "");
        deep(x, "b := ", "NOT ", "NOT ", "b;", "");
        deep(x, "x := ", "a[", "[", "x", "]", ";");
        deep(x, "x := ", "ABS(", "(", "x", ")", ";");
        deep(x, "", "IF b THEN ", "IF b THEN ", "", "END_IF;", "");
        deep(x, "", "CASE x OF 1: ", "CASE x OF 1: ", "", "END_CASE;", "");
        deep(x, "t(IN := ", "NOT ", "NOT ", "b);", "", "", 59);
        deep(x, "a[0] := ", "x - ", "- ", "x;", "");
        deep(x, "a[", "x - ", "- ", "x] := 1;", "", "", 59);
        // signs between operands are open until the outermost expression ends, brackets are not
        Checks.fine(Checks.program(x, "x := " + Checks.repeat("(x) + ", 59) + "(x);"));
        Checks.faulty(7, Checks.program(x, "x := " + Checks.repeat("(x) + ", 60) + "\u00b6(x);"));
        Checks.fine(Checks.program(x, "x := MIN(x" + Checks.repeat(" + x", 29) + ", x" + Checks.repeat(" * x", 30) + ");"));
        Checks.faulty(7, Checks.program(x, "x := MIN(x" + Checks.repeat(" + x", 29) + ", x" + Checks.repeat(" * x", 30) + " \u00b6- x);"));
        Checks.fine(Checks.program(x, "t(IN := b" + Checks.repeat(" OR b", 59) + ", PT := x" + Checks.repeat(" - x", 59) + ");"));
        Checks.fine(Checks.program(x, "a[x" + Checks.repeat(" + x", 59) + "] := x" + Checks.repeat(" + x", 60) + ";"));
        Checks.fine(Checks.program(x, "CASE x" + Checks.repeat(" + x", 59) + " OF -1 .. -1: x := x" + Checks.repeat(" + x", 59) + "; END_CASE;"));
        String many = Checks.repeat(" OR b", 59);
        String sum = "x := x" + Checks.repeat(" + x", 59) + ";";
        Checks.fine(Checks.program(x, "IF b" + many + " THEN " + sum + " ELSIF b" + many + " THEN " + sum + " ELSE " + sum + " END_IF;" + sum + sum));
        Checks.faulty(7, Checks.program(x, "IF b" + many + " THEN ELSIF b" + many + " \u00b6OR b THEN END_IF;"));
        Checks.fine(Checks.program(x, "a[ABS(x" + Checks.repeat(" + x", 58) + ")] := a[x" + Checks.repeat(" + x", 59) + "];"));
        Checks.faulty(7, Checks.program(x, "x := a[x" + Checks.repeat(" + x", 40) + "] + a[x" + Checks.repeat(" + x", 18) + " \u00b6+ x];"));
        Checks.faulty(7, Checks.program(x, Checks.repeat("IF b THEN ", 60) + "t\u00b6(); END_IF;"));
        Checks.faulty(7, Checks.program(x, Checks.repeat("IF b THEN ", 60) + "x := f\u00b6(); END_IF;"));
        Checks.faulty(7, Checks.program(x, Checks.repeat("IF b THEN ", 60) + "\u00b6FOR x := 1 TO 2 DO"));
        Checks.faulty(6, Checks.program(x, Checks.repeat("IF b THEN ", 60) + "x := 1 \u00b6(); END_IF;"));
        Checks.fine(Checks.program(x, Checks.repeat("IF b THEN ", 60) + "x := 1; RETURN; x := 2;" + Checks.repeat("END_IF;", 60)));
        Checks.fine(Checks.program(x, Checks.repeat("IF b THEN ", 59) + "CASE x OF -5 .. -2, -1: END_CASE;" + Checks.repeat("END_IF;", 59)));
    }

    private static void deep(String variables, String before, String opens, String marked, String inner, String closes) {
        deep(variables, before, opens, marked, inner, closes, "");
    }

    private static void deep(String variables, String before, String opens, String marked, String inner, String closes,
            String behind) {
        deep(variables, before, opens, marked, inner, closes, behind, 60);
    }

    /** So many are fine; the one more is told. */
    private static void deep(String variables, String before, String opens, String marked, String inner, String closes,
            String behind, int most) {
        Checks.fine(Checks.program(variables, before + Checks.repeat(opens, most) + inner + Checks.repeat(closes, most) + behind));
        String last = opens.substring(0, opens.length() - marked.length()) + Checks.MARK + marked;
        Checks.faulty(7, Checks.program(variables, before + Checks.repeat(opens, most) + last + inner + Checks.repeat(closes, most + 1) + behind));
    }
}
