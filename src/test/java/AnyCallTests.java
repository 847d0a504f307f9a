/**
 * Any calls with any arguments: none may end otherwise than by an answer, and
 * what the document says of each answer holds.
 */
public final class AnyCallTests {
    private static final String[] PIECES = ("FUNCTION f : INT END_FUNCTION FUNCTION_BLOCK g END_FUNCTION_BLOCK PROGRAM p END_PROGRAM VAR "
        + "VAR_INPUT VAR_OUTPUT END_VAR AT BOOL INT DINT ARRAY OF IF THEN ELSIF ELSE END_IF CASE END_CASE FOR TO BY DO END_FOR EXIT RETURN OR "
        + "XOR AND MOD NOT TRUE FALSE LADDER END_LADDER RUNG END_RUNG x y b t TON ABS MIN 0 1 5 16#FF T#5s %IX0 := .. <= >= <> ( ) [ ] , ; : "
        + ". + - * / = < > & | (* *) # 2147483648").split(" ");
    private static final int[] ODD = {0, 1, -1, 2, 3, 4, 7, 8, 19, 20, 21, 960, 961, 8191, 8192, 100000, 100001, Integer.MAX_VALUE,
        Integer.MIN_VALUE};
    private static final int[] FAULTS = {0, 1, 2, 3, 4, 5, 6, 7, 10, 11, 12, 13, 14, 15, 16, 17, 18, 19, 20, 21, 22, 23, 24, 25, 26, 27, 28,
        29, 30, 31, 32, 33, 34, 35, 36, 37, 38, 39, 40, 41, 42, 43, 44, 50, 51, 52};
    private static long seed = 12345;

    public static void main(String[] args) {
        for (int i = 0; i < 300; i++) {
            anyCalls();
        }
        for (int i = 0; i < 3000; i++) {
            anyText();
        }
        fullTexts();
        Checks.finish("AnyCallTests");
    }

    private static int below(int bound) {
        seed = seed * 6364136223846793005L + 1442695040888963407L;
        return (int) ((seed >>> 33) % bound);
    }

    private static int odd() {
        return ODD[below(ODD.length)];
    }

    private static void anyCalls() {
        CodeMaker x = new CodeMaker();
        int bytes = 0;
        for (int i = 0; i < 60; i++) {
            switch (below(11)) {
                case 0:
                    Checks.due("clear", x.clear(), bytes);
                    bytes = 0;
                    break;
                case 1:
                case 2:
                    int fed = x.feed(odd(), odd(), odd(), odd(), odd());
                    bytes += 20;
                    Checks.due("feed", fed, bytes);
                    break;
                case 3:
                    int n = odd();
                    boolean ends = n >= 0 && n <= 20 && bytes >= 20;
                    bytes = ends ? bytes - 20 + n : bytes;
                    Checks.due("end", x.end(n), ends ? bytes : CodeMaker.NONE);
                    break;
                case 4:
                    judged(x);
                    break;
                case 5:
                    x.count(odd());
                    break;
                case 6:
                    x.length(odd());
                    break;
                case 7:
                    x.told(odd(), odd(), odd());
                    break;
                case 8:
                    x.set(odd(), odd());
                    break;
                case 9:
                    x.get(odd());
                    break;
                default:
                    x.run(odd());
                    break;
            }
        }
        String text = Checks.program("x : INT; d : DINT; t : TON; a : ARRAY [0 .. 9] OF DINT;", "x := x / TO_INT(d); t(IN := x > 5, PT := d); a[x] := d; d := a[d];");
        Checks.feed(x, text);
        Checks.due("make", x.make(), 0);
        for (int i = 0; i < 40; i++) {
            int cell = below(3) == 0 ? odd() : 960 + below(20);
            int v = odd();
            x.set(cell, v);
            Checks.due("get", x.get(cell), cell >= 0 && cell < x.count(4) ? v : 0);
            int ticks = odd();
            int answer = x.run(ticks);
            boolean isRun = ticks >= 0 && ticks <= 100000;
            Checks.due("run", isRun ? answer == 18 || answer == CodeMaker.ZERO || answer == CodeMaker.INDEX : answer == CodeMaker.NONE, true);
        }
    }

    /** Whatever the text is: a fault of the document's, at a place in the text. */
    private static void judged(CodeMaker x) {
        int fault = x.make();
        boolean isKnown = false;
        for (int known : FAULTS) {
            isKnown |= known == fault;
        }
        Checks.due("fault " + fault, isKnown, true);
        Checks.due("the same", x.count(0), fault);
        Checks.due("place", fault == 0 ? x.count(1) == CodeMaker.NONE : x.count(1) >= 0 && x.count(1) <= 8192, true);
        Checks.due("at hand", x.length(0) != CodeMaker.NONE, fault == 0);
    }

    private static void anyText() {
        StringBuilder text = new StringBuilder(below(2) == 0 ? "" : "PROGRAM p VAR x : INT; y : DINT; b : BOOL; t : TON; END_VAR ");
        int pieces = below(60);
        for (int i = 0; i < pieces; i++) {
            text.append(PIECES[below(PIECES.length)]).append(below(8) == 0 ? "" : " ");
        }
        CodeMaker x = new CodeMaker();
        Checks.feed(x, text.toString());
        judged(x);
        x.run(5);
    }

    /** Texts that fill all there is room for. */
    private static void fullTexts() {
        String[] fillers = {"1:", "b;", "a,", "(", "[", "-", "x+", "NOT ", "IF b THEN ", "x:=x;", "a;", "%IX1", "_", "0", "(*", "*", "|", "-|",
            ">b", "a b:INT;", "RUNG -;END_RUNG ", "VAR END_VAR ", "FUNCTION f:INT END_FUNCTION ", "PROGRAM p END_PROGRAM ", "x,", "a:b;",
            "ELSIF b THEN ", "x[", "x(", "1,", "1..1,", "t(a:=1);", "t.Q ", ";", "."};
        String[] beginnings = {"", "PROGRAM p ", "PROGRAM p VAR ", "PROGRAM p VAR x:INT; END_VAR x := ", "PROGRAM p VAR b:BOOL;x:INT;END_VAR ",
            "PROGRAM p VAR x:INT; END_VAR CASE x OF ", "PROGRAM p VAR b:BOOL;a:BOOL; END_VAR LADDER RUNG ", "PROGRAM p LADDER ",
            "PROGRAM p VAR x:INT;b:BOOL; END_VAR IF b THEN "};
        String[] ends = {"", "END_CASE;END_PROGRAM", "END_RUNG END_LADDER END_PROGRAM", " END_PROGRAM", "z:INT;END_VAR END_PROGRAM",
            "END_LADDER END_PROGRAM", "END_IF;END_PROGRAM"};
        CodeMaker x = new CodeMaker();
        for (String beginning : beginnings) {
            for (String filler : fillers) {
                for (String last : ends) {
                    int times = (8192 - beginning.length() - last.length()) / filler.length();
                    Checks.feed(x, beginning + Checks.repeat(filler, times) + last);
                    judged(x);
                }
            }
        }
    }
}
