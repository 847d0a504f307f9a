/** Promises 9 to 11: set, get and run, with all instructions and standard blocks. */
public final class RunTests {
    public static void main(String[] args) {
        cells();
        arithmetic();
        faults();
        limits();
        flow();
        onTimer();
        offTimer();
        pulseTimer();
        counters();
        triggersAndLatches();
        oddCells();
        ladderRun();
        functionsBeginAnew();
        Checks.finish("RunTests");
    }

    private static void cells() {
        CodeMaker x = Checks.made(Checks.program("x : INT := 9;", ""));
        Checks.due("cells", x.count(4), 961);
        Checks.due("set tells what it was", x.set(960, 77), 9);
        Checks.due("again", x.set(960, Integer.MIN_VALUE), 77);
        Checks.due("get", x.get(960), Integer.MIN_VALUE);
        Checks.due("%IX0", x.set(0, 1), 0);
        Checks.due("%IX0 is", x.get(0), 1);
        int[] none = {961, -1, 8191, 8192, Integer.MAX_VALUE, Integer.MIN_VALUE};
        for (int cell : none) {
            Checks.due("set of none", x.set(cell, 5), 0);
            Checks.due("get of none", x.get(cell), 0);
        }
        Checks.due("a run leaves them", x.run(0), 0);
        Checks.due("get behind", x.get(960), Integer.MIN_VALUE);
    }

    /** What d := ... of x (INT, 960) and y (INT, 961), or e (DINT, 962) and f (DINT, 963), comes to. */
    private static void comes(String expression, int first, int second, int want) {
        CodeMaker x = Checks.made(Checks.program("x, y : INT; e, f : DINT; d : DINT; b : BOOL;", "d := TO_DINT(" + expression + ");"));
        x.set(960, first);
        x.set(961, second);
        x.set(962, first);
        x.set(963, second);
        x.set(965, first);
        Checks.due("run of " + expression, x.run(0), x.count(7));
        Checks.due(expression + " of " + first + ", " + second, x.get(964), want);
    }

    private static void arithmetic() {
        comes("x + y", 32767, 1, -32768);
        comes("x - y", -32768, 1, 32767);
        comes("x * y", 300, 300, 24464);
        comes("x / y", -7, 2, -3);
        comes("x / y", -32768, -1, -32768);
        comes("x MOD y", -7, 2, -1);
        comes("x / y", Integer.MIN_VALUE, -1, 0);
        comes("x MOD y", Integer.MIN_VALUE, -1, 0);
        for (String sort : new String[] {"x / y", "e / f"}) {
            comes(sort, 7, 1, 7);
            comes(sort, 7, -2, -3);
            comes(sort, -8, -2, 4);
            comes(sort.replace("/", "MOD"), 7, 1, 0);
            comes(sort.replace("/", "MOD"), -8, 3, -2);
        }
        comes("x + y", 65536, 65537, 1);
        comes("x / y", 1 << 20, 4, 0);
        comes("e + f", Integer.MAX_VALUE, 1, Integer.MIN_VALUE);
        comes("e - f", Integer.MIN_VALUE, 1, Integer.MAX_VALUE);
        comes("e * f", 65536, 65536, 0);
        comes("e * f", 46341, 46341, -2147479015);
        comes("e / f", Integer.MIN_VALUE, -1, Integer.MIN_VALUE);
        comes("e MOD f", Integer.MIN_VALUE, -1, 0);
        comes("e MOD f", 7, -2, 1);
        comes("e AND f", 12, 10, 8);
        comes("e OR f", 12, 10, 14);
        comes("e XOR f", 12, 10, 6);
        // of a lesser, the same and a greater one
        String[] signs = {"=", "<>", "<", ">", "<=", ">="};
        int[][] hold = {{0, 1, 0}, {1, 0, 1}, {1, 0, 0}, {0, 0, 1}, {1, 1, 0}, {0, 1, 1}};
        for (int i = 0; i < signs.length; i++) {
            for (int j = 0; j < 3; j++) {
                comes("e " + signs[i] + " f", j - 2, -1, hold[i][j]);
                comes("x " + signs[i] + " y", j - 2, -1, hold[i][j]);
            }
        }
        comes("e = f", 5, 5, 1);
        comes("e <> f", 5, 5, 0);
        comes("e < f", -5, 5, 1);
        comes("e > f", -5, 5, 0);
        comes("e <= f", 5, 5, 1);
        comes("e >= f", -6, -5, 0);
        comes("e < f", Integer.MIN_VALUE, Integer.MAX_VALUE, 1);
        comes("SHL(x, y)", 3, 15, -32768);
        comes("SHL(x, y)", 3, 16, 0);
        comes("SHL(x, y)", 3, -1, 0);
        comes("SHR(x, y)", -1, 4, 4095);
        comes("SHR(x, y)", -1, 0, -1);
        comes("SHR(x, y)", -1, 15, 1);
        comes("SHR(x, y)", -1, 16, 0);
        comes("SHR(x, y)", 0x7FFF8000, 15, 1);
        comes("SHL(e, f)", 3, 31, Integer.MIN_VALUE);
        comes("SHL(e, f)", 3, 32, 0);
        comes("SHR(e, f)", -1, 31, 1);
        comes("SHR(e, f)", -1, 0, -1);
        comes("SHR(e, f)", -1, Integer.MIN_VALUE, 0);
        comes("MIN(e, f)", 5, -5, -5);
        comes("MAX(e, f)", 5, -5, 5);
        comes("LIMIT(e, 0, f)", 5, 7, 5);
        comes("LIMIT(e, 9, f)", 5, 7, 7);
        comes("-x", -32768, 0, -32768);
        comes("-x", 70000, 0, -4464);
        comes("-e", Integer.MIN_VALUE, 0, Integer.MIN_VALUE);
        comes("ABS(x)", -32768, 0, -32768);
        comes("ABS(x)", -32769, 0, -32767);
        comes("ABS(e)", Integer.MIN_VALUE, 0, Integer.MIN_VALUE);
        comes("ABS(e)", -7, 0, 7);
        comes("NOT x", 5, 0, -6);
        comes("NOT b", 5, 0, 0);
        comes("NOT b", 0, 0, 1);
        comes("TO_INT(e)", 40000, 0, -25536);
        comes("TO_INT(b)", 7, 0, 7);
        comes("TO_BOOL(e)", -7, 0, 1);
        comes("TO_BOOL(e)", 0, 0, 0);
        comes("SEL(b, x, 9)", 5, 0, 9);
        comes("SEL(b, 8, e)", 0, 0, 8);
    }

    private static void faults() {
        CodeMaker x = Checks.made(Checks.program("x, y, z : INT; d : DINT;", "z := 1; x := x / y; z := 2;"));
        Checks.due("ZERO", x.run(3), CodeMaker.ZERO);
        Checks.due("its steps", x.count(5), 5);
        Checks.due("its ticks", x.count(6), 3);
        Checks.due("cells stay as they are then", x.get(962), 1);
        x.set(961, 2);
        Checks.due("fine", x.run(4), 8);
        Checks.due("z", x.get(962), 2);
        for (String operator : new String[] {"x / y", "x MOD y", "d / y", "d MOD y"}) {
            Checks.due("ZERO of " + operator, Checks.made(Checks.program("x, y : INT; d : DINT;", "d := " + operator + ";")).run(0), CodeMaker.ZERO);
        }
        CodeMaker a = Checks.made(Checks.program("i : DINT; a : ARRAY [-2 .. 1] OF INT := 4; b : INT; r : INT;", "r := a[i]; a[i] := 9;"));
        int[] out = {-3, 2, Integer.MIN_VALUE, Integer.MAX_VALUE, Integer.MAX_VALUE - 1};
        for (int i : out) {
            a.set(960, i);
            Checks.due("INDEX of " + i, a.run(0), CodeMaker.INDEX);
            Checks.due("its steps", a.count(5), 2);
        }
        for (int i = -2; i <= 1; i++) {
            a.set(960, i);
            Checks.due("element " + i, a.run(0), 6);
            Checks.due("it was", a.get(966), 4);
            Checks.due("it is", a.get(963 + i), 9);
        }
        Checks.due("behind the array", a.get(965), 0);
        CodeMaker far = Checks.made(Checks.program("i : DINT; a : ARRAY [2147483646 .. 2147483647] OF INT; r : INT;", "a[i] := 9;"));
        far.set(960, Integer.MIN_VALUE);
        Checks.due("reckoned without a bound", far.run(0), CodeMaker.INDEX);
        Checks.due("PUT is a step", far.count(5), 3);
        far.set(960, Integer.MAX_VALUE);
        Checks.due("the last element", far.run(0), 3);
        Checks.due("its cell", far.get(962), 9);
    }

    private static void limits() {
        CodeMaker x = Checks.made(Checks.program("x : DINT;", "x := x + 1;"));
        Checks.due("run(-1)", x.run(-1), CodeMaker.NONE);
        Checks.due("run(100001)", x.run(100001), CodeMaker.NONE);
        Checks.due("run(least)", x.run(Integer.MIN_VALUE), CodeMaker.NONE);
        Checks.due("nothing was run", x.get(960), 0);
        Checks.due("run(100000)", x.run(100000), 4);
        Checks.due("run(0)", x.run(0), 4);
        Checks.due("NOW", x.count(6), 100000);
        CodeMaker y = Checks.made(Checks.program("x, y : DINT;", "y := 1; FOR x := 1 TO 8333 DO END_FOR;"));
        Checks.due("other ticks", y.run(-1), CodeMaker.NONE);
        Checks.due("LONG", y.run(7), CodeMaker.LONG);
        Checks.due("nothing is run", y.get(961), 0);
        Checks.due("no ticks go by", y.count(6), 0);
        Checks.due("no steps", y.count(5), 0);
        // 3 + 6 * 8,331 + 1 of the loop, and five statements
        CodeMaker z = Checks.made(Checks.program("x, y : DINT;", "y := 1; y := 1; y := 1; y := 1; FOR x := 1 TO 8331 DO END_FOR; y := y;"));
        Checks.due("bound of 50,000", z.count(7), 50000);
        Checks.due("is run", z.run(0), 50000);
    }

    private static void flow() {
        CodeMaker x = Checks.made(Checks.program("x, n, s : INT;",
            "FOR x := 10 TO 1 BY -3 DO CASE x OF 10: s := s + 1; 1, 5 .. 7: s := s + 10; ELSE s := s + 100; END_CASE; n := n + 1; END_FOR;"));
        x.run(0);
        Checks.due("times", x.get(961), 4);
        Checks.due("10, 7, 4, 1", x.get(962), 121);
        Checks.due("behind the last", x.get(960), -2);
        CodeMaker y = Checks.made(Checks.program("x, n : INT;", "FOR x := 1 TO 100 DO IF x = 5 THEN EXIT; END_IF; n := n + x; END_FOR; IF n = 10 THEN RETURN; END_IF; n := 0;"));
        Checks.due("steps", y.run(0), 3 + 4 * 14 + 1 + 4 + 1 + 4 + 1);
        Checks.due("n", y.get(961), 10);
        CodeMaker w = Checks.made(Checks.program("x : INT; n : INT;", "FOR x := 32766 TO 32767 DO n := n + 1; END_FOR;"));
        w.run(0);
        Checks.due("INT wraps", w.get(960), -32768);
        Checks.due("two times", w.get(961), 2);
        CodeMaker nested = Checks.made(Checks.program("i, j, n : INT;", "FOR i := 1 TO 3 DO FOR j := 1 TO 4 DO IF j > i THEN EXIT; END_IF; n := n + 1; END_FOR; END_FOR;"));
        nested.run(0);
        Checks.due("EXIT leaves one loop", nested.get(962), 6);
    }

    /** One run: IN, ticks; then Q and ET. */
    private static void timer(CodeMaker x, int in, int ticks, int q, int et) {
        x.set(960, in);
        x.run(ticks);
        Checks.due("Q at " + x.count(6), x.get(963), q);
        Checks.due("ET at " + x.count(6), x.get(964), et);
        Checks.due("M at " + x.count(6), x.get(965), in != 0 ? 1 : 0);
        Checks.due("L at " + x.count(6), x.get(966), x.count(6));
    }

    private static CodeMaker timerOf(String type, String time) {
        return Checks.made(Checks.program("i : BOOL; t : " + type + ";", "t(IN := i, PT := " + time + ");"));
    }

    private static void onTimer() {
        CodeMaker x = timerOf("TON", "T#100ms");
        timer(x, 0, 50, 0, 0);
        timer(x, 1, 50, 0, 0);
        timer(x, 1, 60, 0, 60);
        timer(x, 1, 39, 0, 99);
        timer(x, 1, 1, 1, 100);
        timer(x, 1, 500, 1, 100);
        timer(x, 0, 5, 0, 0);
        timer(x, 5, 5, 0, 0);
        timer(x, 1, 200, 1, 100);
        CodeMaker none = timerOf("TON", "-5");
        timer(none, 1, 3, 1, 0);
        timer(none, 1, 3, 1, 0);
        timer(none, 0, 3, 0, 0);
    }

    private static void offTimer() {
        CodeMaker x = timerOf("TOF", "100");
        timer(x, 0, 50, 0, 0);
        timer(x, 1, 50, 1, 0);
        timer(x, 1, 50, 1, 0);
        timer(x, 0, 50, 1, 0);
        timer(x, 0, 99, 1, 99);
        timer(x, 0, 1, 0, 100);
        timer(x, 0, 50, 0, 100);
        timer(x, 1, 50, 1, 0);
        timer(x, 0, 50, 1, 0);
        timer(x, 1, 50, 1, 0);
        CodeMaker none = timerOf("TOF", "0");
        timer(none, 1, 3, 1, 0);
        timer(none, 0, 3, 0, 0);
        timer(none, 0, 3, 0, 0);
    }

    private static void pulseTimer() {
        CodeMaker x = timerOf("TP", "100");
        timer(x, 1, 50, 1, 0);
        timer(x, 1, 50, 1, 50);
        timer(x, 0, 10, 1, 60);
        timer(x, 1, 10, 1, 70);
        timer(x, 1, 30, 0, 100);
        timer(x, 1, 30, 0, 100);
        timer(x, 0, 30, 0, 0);
        timer(x, 1, 30, 1, 0);
        timer(x, 0, 100, 0, 0);
        timer(x, 1, 1, 1, 0);
        timer(x, 0, 50, 1, 50);
        // it ends and begins again in the same run
        timer(x, 1, 50, 1, 0);
        CodeMaker none = timerOf("TP", "0");
        timer(none, 1, 3, 0, 0);
        timer(none, 1, 3, 0, 0);
    }

    private static void counters() {
        CodeMaker u = Checks.made(Checks.program("i, r : BOOL; k : INT := 2; c : CTU;", "c(CU := i, R := r, PV := k);"));
        int[][] up = {{0, 0, 0, 0}, {1, 0, 0, 1}, {1, 0, 0, 1}, {0, 0, 0, 1}, {7, 0, 1, 2}, {0, 0, 1, 2}, {1, 9, 0, 0}, {1, 0, 0, 0}, {0, 0, 0, 0}, {1, 0, 0, 1}};
        counter(u, up);
        u.set(967, 32767);
        counter(u, new int[][] {{0, 0, 1, 32767}, {1, 0, 1, 32767}});
        CodeMaker d = Checks.made(Checks.program("i, l : BOOL; k : INT := 2; c : CTD;", "c(CD := i, LD := l, PV := k);"));
        int[][] down = {{0, 0, 1, 0}, {0, 1, 0, 2}, {1, 1, 0, 2}, {1, 0, 0, 2}, {0, 0, 0, 2}, {1, 0, 0, 1}, {0, 0, 0, 1}, {3, 0, 1, 0}, {0, 0, 1, 0}, {1, 0, 1, -1}};
        counter(d, down);
        d.set(967, -32768);
        counter(d, new int[][] {{0, 0, 1, -32768}, {1, 0, 1, -32768}});
    }

    private static void counter(CodeMaker x, int[][] runs) {
        for (int[] run : runs) {
            x.set(960, run[0]);
            x.set(961, run[1]);
            x.run(1);
            Checks.due("Q", x.get(966), run[2]);
            Checks.due("CV", x.get(967), run[3]);
            Checks.due("M", x.get(968), run[0] != 0 ? 1 : 0);
        }
    }

    private static void triggersAndLatches() {
        CodeMaker x = Checks.made(Checks.program("i, j : BOOL; r : R_TRIG; f : F_TRIG; s : SR; t : RS;", "r(CLK := i); f(CLK := i); s(S1 := i, R := j); t(S := i, R1 := j);"));
        // i, j; r.Q, f.Q, s.Q1, t.Q1
        int[][] runs = {{0, 0, 0, 0, 0, 0}, {4, 0, 1, 0, 1, 1}, {1, 0, 0, 0, 1, 1}, {0, 0, 0, 1, 1, 1}, {0, 0, 0, 0, 1, 1}, {0, 3, 0, 0, 0, 0},
            {1, 1, 1, 0, 1, 0}, {1, 0, 0, 0, 1, 1}, {0, 1, 0, 1, 0, 0}};
        for (int[] run : runs) {
            x.set(960, run[0]);
            x.set(961, run[1]);
            x.run(0);
            Checks.due("R_TRIG", x.get(963), run[2]);
            Checks.due("F_TRIG", x.get(966), run[3]);
            Checks.due("SR", x.get(970), run[4]);
            Checks.due("RS", x.get(973), run[5]);
        }
    }

    /** Cells of timers that were set from outside: sums have no bound, of ET the lowest 32 bits count. */
    private static void oddCells() {
        CodeMaker x = timerOf("TON", "2147483647");
        x.set(965, 5);
        x.set(964, Integer.MAX_VALUE);
        x.set(966, Integer.MIN_VALUE);
        timer(x, 1, 0, 1, Integer.MAX_VALUE);
        x.set(964, Integer.MIN_VALUE);
        x.set(966, Integer.MAX_VALUE);
        // -2^31 - (2^31 - 1) is 1 in its lowest 32 bits
        timer(x, 1, 0, 0, 1);
        // ET becomes 0 where it is told to, whatever it was
        int[][] rows = {{0, 0}, {0, 1}, {1, 0}, {1, 1}};
        int[][] onDue = {{0, 0}, {0, 0}, {0, 0}, {0, 43}};
        int[][] offDue = {{0, 33}, {1, 0}, {1, 0}, {1, 0}};
        int[][] pulseDue = {{0, 0}, {0, 0}, {1, 0}, {0, 33}};
        String[] types = {"TON", "TOF", "TP"};
        int[][][] due = {onDue, offDue, pulseDue};
        for (int i = 0; i < types.length; i++) {
            for (int j = 0; j < rows.length; j++) {
                CodeMaker t = timerOf(types[i], "50");
                t.set(964, 33);
                t.set(965, rows[j][1]);
                timer(t, rows[j][0], 10, due[i][j][0], due[i][j][1]);
            }
        }
        CodeMaker p = timerOf("TP", "50");
        p.set(963, 5);
        timer(p, 0, 10, 5, 10);
        timer(p, 0, 40, 0, 0);
        CodeMaker s = Checks.made(Checks.program("s : SR; t : RS;", "s(); t();"));
        s.set(962, -1);
        s.set(965, 8);
        s.run(0);
        Checks.due("SR's Q1 that was -1", s.get(962), 1);
        Checks.due("RS's Q1 that was 8", s.get(965), 1);
    }

    private static void ladderRun() {
        CodeMaker x = Checks.made(Checks.program("a AT %IX0 : BOOL; b AT %IX1 : BOOL; q AT %QX0 : BOOL; s AT %QX1 : BOOL; n AT %QX2 : BOOL; e AT %QX3 : BOOL;",
            "LADDER RUNG a | /b (q); q - *; END_RUNG RUNG a (+s); b (-s); END_RUNG RUNG - >a (e); END_RUNG RUNG <b (/n); END_RUNG END_LADDER"));
        // a, b; q, s, n, e
        int[][] runs = {{0, 0, 0, 0, 1, 0}, {1, 0, 1, 1, 1, 1}, {0, 0, 1, 1, 1, 0}, {0, 1, 0, 0, 1, 0}, {0, 0, 0, 0, 0, 0}, {1, 1, 0, 0, 1, 1}, {1, 0, 1, 1, 0, 0}};
        for (int[] run : runs) {
            x.set(0, run[0]);
            x.set(1, run[1]);
            Checks.due("steps", x.run(1), x.count(7));
            for (int i = 0; i < 4; i++) {
                Checks.due("%QX" + i, x.get(256 + i), run[2 + i]);
            }
        }
    }

    private static void functionsBeginAnew() {
        CodeMaker x = Checks.made("FUNCTION f : INT VAR_INPUT i : INT; END_VAR VAR v : INT := 3; END_VAR v := v + i; f := f + v; END_FUNCTION "
            + Checks.program("x, y : INT;", "x := f(1); y := f(f(2));"));
        Checks.due("steps", x.run(0), 5 + 12 + 8 + 2 * 12);
        Checks.due("x", x.get(960), 4);
        Checks.due("y", x.get(961), 8);
        Checks.due("cells of f stay", x.get(962), 8);
        Checks.due("its input", x.get(963), 5);
        Checks.due("its variable", x.get(964), 8);
        x.run(0);
        Checks.due("x again", x.get(960), 4);
    }
}
