import java.math.BigInteger;

/** Each sentence of 'INSTRUCTIONS' that names an edge, with a test of its own; numbers without a bound are reckoned by BigInteger. */
public final class RunEdgeTests {
    private static final int LEAST = Integer.MIN_VALUE;
    private static final int MOST = Integer.MAX_VALUE;
    private static final int[] EDGES = {LEAST, LEAST + 1, -65537, -65536, -65535, -32769, -32768, -32767, -17, -16, -15, -2, -1, 0, 1, 2, 3, 14, 15, 16, 17, 30, 31,
        32, 33, 32766, 32767, 32768, 65535, 65536, 65537, MOST - 1, MOST};
    private static final String[] SIGNS = {"+", "-", "*", "/", "MOD"};

    public static void main(String[] args) {
        arithmetic();
        zero();
        bits();
        comparisons();
        shifts();
        lesserAndGreater();
        ones();
        choosing();
        taking();
        putting();
        unless();
        next();
        leaving();
        Checks.finish("RunEdgeTests");
    }

    private interface Reckoner {
        BigInteger of(BigInteger x, BigInteger y);
    }

    private static int w16(BigInteger x) {
        return x.shortValue();
    }

    /** x and y are INT in 960 and 961, e and f DINT in 962 and 963, b BOOL in 964, what comes DINT in 965. */
    private static CodeMaker reckons(String expression) {
        CodeMaker maker = new CodeMaker();
        Checks.feed(maker, Checks.program("x, y : INT; e, f : DINT; b : BOOL; d : DINT;", "d := TO_DINT(" + expression + ");"));
        Checks.due("make of " + expression, maker.make(), 0);
        return maker;
    }

    private static void put(CodeMaker maker, int x, int y) {
        maker.set(960, x);
        maker.set(961, y);
        maker.set(962, x);
        maker.set(963, y);
        maker.set(964, x);
    }

    private static void asks(CodeMaker maker, String expression, int x, int y, int want) {
        put(maker, x, y);
        Checks.due("steps of " + expression + " of " + x + ", " + y, maker.run(0), maker.length(0));
        Checks.due(expression + " of " + x + ", " + y, maker.get(965), want);
    }

    /** All edges, but 0 for y if that is told. */
    private static void all(String expression, boolean isShort, boolean withZero, Reckoner reckoner) {
        for (int x : EDGES) {
            // a new object each time, as one is used for at most 512 calls
            CodeMaker maker = reckons(expression);
            for (int y : EDGES) {
                if (y != 0 || withZero) {
                    BigInteger z = reckoner.of(BigInteger.valueOf(x), BigInteger.valueOf(y));
                    asks(maker, expression, x, y, isShort ? w16(z) : z.intValue());
                }
            }
        }
    }

    private static void arithmetic() {
        Reckoner[] reckoners = {BigInteger::add, BigInteger::subtract, BigInteger::multiply, BigInteger::divide, BigInteger::remainder};
        Checks.says("TWO k takes y, then x, and leaves: 0 to 4: W16 of x + y, x - y, x y, x / y, x mod y;");
        for (int i = 0; i < SIGNS.length; i++) {
            all("x " + SIGNS[i] + " y", true, i < 3, reckoners[i]);
        }
        Checks.says("5 to 9: these in 32 bits, wrapping (quotients cut off towards 0, what is left with the sign of x;");
        for (int i = 0; i < SIGNS.length; i++) {
            all("e " + SIGNS[i] + " f", false, i < 3, reckoners[i]);
        }
        int[][] quotients = {{7, 2, 3, 1}, {-7, 2, -3, -1}, {7, -2, -3, 1}, {-7, -2, 3, -1}, {1, 2, 0, 1}, {-1, 2, 0, -1}, {LEAST, -1, LEAST, 0}, {LEAST, 1, LEAST, 0}};
        CodeMaker quotient = reckons("e / f");
        CodeMaker rest = reckons("e MOD f");
        for (int[] row : quotients) {
            asks(quotient, "e / f", row[0], row[1], row[2]);
            asks(rest, "e MOD f", row[0], row[1], row[3]);
        }
    }

    private static void zero() {
        Checks.says("y = 0 in 3, 4, 8, 9: the fault ZERO);");
        for (String expression : new String[] {"x / y", "x MOD y", "e / f", "e MOD f"}) {
            CodeMaker maker = reckons(expression);
            for (int x : EDGES) {
                put(maker, x, 0);
                maker.set(965, 77);
                Checks.due(expression + " of " + x + ", 0", maker.run(1), CodeMaker.ZERO);
                Checks.due("that instruction is a step, too", maker.count(5), 3);
                Checks.due("nothing is stored", maker.get(965), 77);
            }
        }
        CodeMaker none = reckons("x * y + e - f");
        put(none, 0, 0);
        Checks.due("0 elsewhere is no fault", none.run(0), none.length(0));
    }

    private static void bits() {
        Checks.says("10 and, 11 or, 12 xor, bit by bit;");
        all("e AND f", false, true, BigInteger::and);
        all("x OR y", false, true, BigInteger::or);
        all("e XOR f", false, true, BigInteger::xor);
    }

    private static BigInteger truth(boolean holds) {
        return holds ? BigInteger.ONE : BigInteger.ZERO;
    }

    private static void comparisons() {
        Checks.says("13 to 18: 1 if x =, <>, <, >, <=, >= y, else 0;");
        all("e = f", false, true, (x, y) -> truth(x.compareTo(y) == 0));
        all("x <> y", false, true, (x, y) -> truth(x.compareTo(y) != 0));
        all("e < f", false, true, (x, y) -> truth(x.compareTo(y) < 0));
        all("x > y", false, true, (x, y) -> truth(x.compareTo(y) > 0));
        all("e <= f", false, true, (x, y) -> truth(x.compareTo(y) <= 0));
        all("x >= y", false, true, (x, y) -> truth(x.compareTo(y) >= 0));
    }

    private static BigInteger left(BigInteger x, BigInteger y, int bits) {
        return y.signum() < 0 || y.compareTo(BigInteger.valueOf(bits)) >= 0 ? BigInteger.ZERO : x.multiply(BigInteger.TWO.pow(y.intValue()));
    }

    private static BigInteger right(BigInteger x, BigInteger y, int bits) {
        return y.signum() < 0 || y.compareTo(BigInteger.valueOf(bits)) >= 0 ? BigInteger.ZERO : x.mod(BigInteger.TWO.pow(bits)).divide(BigInteger.TWO.pow(y.intValue()));
    }

    private static void shifts() {
        Checks.says("19: W16(x 2^y) for y of 0 .. 15, else 0;");
        all("SHL(x, f)", true, true, (x, y) -> left(x, y, 16));
        Checks.says("20: W16 of the lowest 16 bits of x, without sign, by 2^y, cut off, for y of 0 .. 15, else 0;");
        all("SHR(x, f)", true, true, (x, y) -> right(x, y, 16));
        Checks.says("21, 22: these in 32 bits for y of 0 .. 31, else 0;");
        all("SHL(e, y)", false, true, (x, y) -> left(x, y, 32));
        all("SHR(e, y)", false, true, (x, y) -> right(x, y, 32));
    }

    private static void lesserAndGreater() {
        Checks.says("23 the lesser, 24 the greater one.");
        all("MIN(x, y)", false, true, BigInteger::min);
        all("MAX(e, f)", false, true, BigInteger::max);
    }

    private static void each(String expression, boolean isShort, Reckoner reckoner) {
        CodeMaker maker = reckons(expression);
        for (int x : EDGES) {
            BigInteger z = reckoner.of(BigInteger.valueOf(x), BigInteger.ZERO);
            asks(maker, expression, x, 0, isShort ? w16(z) : z.intValue());
        }
    }

    private static void ones() {
        Checks.says("ONE k takes x, and leaves: 0 W16(-x), 1 -x, 2 1 if x is 0, else 0, 3 all bits turned, 4 W16 of x without its sign,");
        each("-x", true, (x, y) -> x.negate());
        each("-e", false, (x, y) -> x.negate());
        each("NOT b", false, (x, y) -> truth(x.signum() == 0));
        each("NOT x", false, (x, y) -> x.not());
        each("NOT e", false, (x, y) -> x.not());
        each("ABS(x)", true, (x, y) -> x.abs());
        Checks.says("5 that in 32 bits (the least number stays), 6 W16(x), 7 0 if x is 0, else 1.");
        each("ABS(e)", false, (x, y) -> x.abs());
        asks(reckons("ABS(e)"), "ABS(e)", LEAST, 0, LEAST);
        asks(reckons("ABS(e)"), "ABS(e)", LEAST + 1, 0, MOST);
        each("TO_INT(e)", true, (x, y) -> x);
        each("TO_INT(b)", true, (x, y) -> x);
        each("TO_BOOL(e)", false, (x, y) -> truth(x.signum() != 0));
        each("TO_BOOL(x)", false, (x, y) -> truth(x.signum() != 0));
    }

    private static void choosing() {
        Checks.says("CHOOSE takes y, x, g, and leaves y, if g is not 0, else x.");
        each("SEL(b, 111, 222)", false, (x, y) -> BigInteger.valueOf(x.signum() == 0 ? 111 : 222));
        CodeMaker both = reckons("SEL(FALSE, e, f) - SEL(TRUE, e, f)");
        asks(both, "the first, less the second one", 9, 4, 5);
    }

    private static void taking() {
        Checks.says("TAKE c l n takes i: the fault INDEX, if i - l, reckoned without a bound, is not 0 .. n - 1; leaves cell c + i - l.");
        int[][] bounds = {{0, 0}, {0, 255}, {-3, 4}, {5, 9}, {-2147483647, -2147483640}, {2147483640, 2147483647}, {-1, -1}, {32767, 32768}};
        for (int[] bound : bounds) {
            String array = "v : DINT; a : ARRAY [" + bound[0] + " .. " + bound[1] + "] OF DINT; r : DINT;";
            CodeMaker maker = Checks.made(Checks.program(array, "r := a[v];"));
            int elements = bound[1] - bound[0] + 1;
            maker.set(961, 1001);
            maker.set(960 + elements, 1002);
            for (int i : new int[] {bound[0], bound[1]}) {
                maker.set(960, i);
                Checks.due("steps", maker.run(0), 3);
                Checks.due("element " + i, maker.get(961 + elements), i == bound[1] ? 1002 : 1001);
            }
            for (long i : new long[] {bound[0] - 1L, bound[1] + 1L, LEAST, MOST, bound[0] + 256L, bound[0] - 256L, LEAST + (long) bound[0], MOST + (long) bound[0]}) {
                if (i >= LEAST && i <= MOST && (i < bound[0] || i > bound[1])) {
                    maker.set(960, (int) i);
                    Checks.due("INDEX of " + i + " in " + array, maker.run(0), CodeMaker.INDEX);
                    Checks.due("that instruction is a step, too", maker.count(5), 2);
                }
            }
        }
    }

    private static void putting() {
        Checks.says("PUT c l n takes v, then i, INDEX likewise: that cell becomes v.");
        int[][] bounds = {{0, 0}, {-3, 4}, {1, 256}, {-2147483647, -2147483640}, {2147483640, 2147483647}};
        for (int[] bound : bounds) {
            CodeMaker maker = Checks.made(Checks.program("v : DINT; a : ARRAY [" + bound[0] + " .. " + bound[1] + "] OF DINT; r : DINT;", "a[v] := 55;"));
            int last = 961 + bound[1] - bound[0];
            for (long i : new long[] {bound[0] - 1L, bound[1] + 1L, LEAST, MOST, -1, 0}) {
                if (i >= LEAST && i <= MOST && (i < bound[0] || i > bound[1])) {
                    maker.set(960, (int) i);
                    Checks.due("INDEX of " + i, maker.run(0), CodeMaker.INDEX);
                    Checks.due("that instruction is a step, too", maker.count(5), 3);
                    Checks.due("no cell before", maker.get(960), (int) i);
                    Checks.due("not the first", maker.get(961), 0);
                    Checks.due("not the last", maker.get(last), 0);
                    Checks.due("no cell behind", maker.get(last + 1), 0);
                }
            }
            maker.set(960, bound[1]);
            Checks.due("the last element", maker.run(0), 3);
            Checks.due("it is", maker.get(last), 55);
            maker.set(last, 0);
            maker.set(960, bound[0]);
            Checks.due("the first element", maker.run(0), 3);
            Checks.due("it is", maker.get(961), 55);
            Checks.due("no cell behind", maker.get(last + 1), 0);
        }
    }

    private static void unless() {
        Checks.says("UNLESS i takes x: on there, if x is 0.");
        CodeMaker maker = Checks.made(Checks.program("b : BOOL; r : INT;", "IF b THEN r := 1; ELSE r := 2; END_IF;"));
        for (int x : EDGES) {
            maker.set(960, x);
            Checks.due("steps", maker.run(0), x == 0 ? 4 : 5);
            Checks.due("IF " + x, maker.get(961), x == 0 ? 2 : 1);
        }
    }

    private static void next() {
        Checks.says("COUNT c n: cell c becomes n. NEXT c i: on at i, if cell c is 0, otherwise it becomes 1 less.");
        for (int times : new int[] {0, 1, 2, 1000}) {
            CodeMaker maker = Checks.made(Checks.program("v, n : INT;", "FOR v := 1 TO " + times + " DO n := n + 1; END_FOR;"));
            maker.set(962, 5);
            Checks.due("steps", maker.run(0), 3 + 10 * times + 1);
            Checks.due("times", maker.get(961), times);
            Checks.due("the variable", maker.get(960), times + 1);
            Checks.due("its own cell", maker.get(962), 0);
        }
        CodeMaker left = Checks.made(Checks.program("v, n : INT;", "FOR v := 1 TO 5 DO IF v = 2 THEN EXIT; END_IF; END_FOR;"));
        left.run(0);
        Checks.due("what was left to do", left.get(962), 3);
        CodeMaker wraps = Checks.made(Checks.program("v : INT; d : DINT;", "FOR v := 32767 TO 32767 DO END_FOR; FOR d := 2147483647 TO 2147483647 DO END_FOR;"));
        wraps.run(0);
        Checks.due("an INT behind the greatest", wraps.get(960), -32768);
        Checks.due("a DINT behind the greatest", wraps.get(961), LEAST);
    }

    private static void leaving() {
        Checks.says("LEAVE: the unit ends; also behind its last instruction.");
        CodeMaker maker = Checks.made("FUNCTION f : INT VAR_INPUT b : BOOL; END_VAR IF b THEN f := 1; RETURN; END_IF; f := 2; END_FUNCTION "
            + "FUNCTION_BLOCK g RETURN; END_FUNCTION_BLOCK FUNCTION_BLOCK h END_FUNCTION_BLOCK "
            + Checks.program("b : BOOL; r : INT; k : g; l : h;", "r := f(b); k(); l(); RETURN; r := 9;"));
        Checks.due("steps", maker.run(0), 5 + 6 + 2 + 1 + 1);
        Checks.due("behind the last instruction", maker.get(961), 2);
        maker.set(960, 1);
        Checks.due("steps", maker.run(0), 5 + 7 + 2 + 1 + 1);
        Checks.due("by LEAVE", maker.get(961), 1);
        CodeMaker empty = Checks.made("PROGRAM p END_PROGRAM");
        Checks.due("a unit without instructions", empty.run(0), 0);
    }
}
