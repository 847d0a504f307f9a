import java.util.Arrays;

/**
 * Texts for a controller become code for a machine with a stack, which does
 * what the text means; the code can be run. ../shared/DOC.md tells it all.
 */
public final class CodeMaker {
    public static final int NONE = -1, ZERO = -3, INDEX = -4, LONG = -5;

    // Limits of the document, and what follows from them. A text of n bytes
    // has at most 2 n nodes ("1:" in a CASE has four) but for its first few.
    private static final int MOST_BYTES = 8192, FED = 20, MOST_NAME_BYTES = 32;
    private static final int MOST_NODES = 2 * MOST_BYTES + 16, MOST_PATH = 256;
    private static final int MOST_OPEN = 60;
    private static final int MOST_BLOCKS = 512, MOST_UNITS = 16, MOST_CODE = 3000;
    private static final int MOST_BLOCK_CELLS = 4096, MOST_CELLS = 8192;
    private static final int MOST_ELEMENTS = 256, MOST_TIMES = 1000000, MOST_INPUTS = 8;
    private static final int MOST_STACK = 64, MOST_BOUND = 1000000000;
    private static final int MOST_RUN = 50000, MOST_TICKS = 100000;
    private static final int SIDE = 12, POWERS = 156;
    private static final int PLACES = 960, MOST_NUMBER = 2147483647;

    // Names that are known beforehand, numbered in this order: words, standard
    // blocks, standard functions, inputs and outputs of standard blocks.
    private static final String KNOWN =
        "FUNCTION END_FUNCTION FUNCTION_BLOCK END_FUNCTION_BLOCK PROGRAM END_PROGRAM VAR VAR_INPUT VAR_OUTPUT END_VAR AT BOOL INT DINT ARRAY OF IF THEN ELSIF ELSE END_IF CASE END_CASE FOR TO BY DO END_FOR EXIT RETURN OR XOR AND MOD NOT TRUE FALSE LADDER END_LADDER RUNG END_RUNG TON TOF TP CTU CTD R_TRIG F_TRIG SR RS ABS MIN MAX LIMIT SEL SHL SHR TO_INT TO_DINT TO_BOOL IN PT Q ET CU R PV CV CD LD CLK S1 S R1 Q1 ";
    private static final int W_FUNCTION = 0, W_FUNCTION_BLOCK = 2, W_PROGRAM = 4, W_VAR = 6,
        W_VAR_OUTPUT = 8, W_END_VAR = 9, W_AT = 10, W_BOOL = 11, W_DINT = 13, W_ARRAY = 14,
        W_OF = 15, W_IF = 16, W_THEN = 17, W_ELSIF = 18, W_ELSE = 19, W_END_IF = 20, W_CASE = 21,
        W_END_CASE = 22, W_FOR = 23, W_TO = 24, W_BY = 25, W_DO = 26, W_END_FOR = 27, W_EXIT = 28,
        W_RETURN = 29, W_OR = 30, W_XOR = 31, W_AND = 32, W_MOD = 33, W_NOT = 34, W_TRUE = 35,
        W_FALSE = 36, W_LADDER = 37, W_END_LADDER = 38, W_RUNG = 39, W_END_RUNG = 40;
    private static final int WORDS = 41, FIRST_FUNCTION = 50, FIRST_PORT = 60, KNOWN_NAMES = 75;
    private static final int KNOWN_BYTES = 512, MOST_NAMES = KNOWN_NAMES + MOST_BYTES / 2 + 1;
    private static final int BUCKETS = 1024, MOST_VARIABLES = MOST_BYTES / 2 + 1;

    // Kinds of tokens: a word's is its number; a sign of one byte has 128 and
    // that byte.
    private static final int T_NAME = 64, T_NUMBER = 65, T_PLACE = 66, T_END = 67, T_BAD = 68,
        T_STOPPED = 69;
    private static final int S_ASSIGN = 70, S_DOTS = 71, S_AT_MOST = 72, S_AT_LEAST = 73,
        S_UNLIKE = 74, ONE_BYTE = 128;
    private static final int S_OPEN = ONE_BYTE + '(', S_CLOSE = ONE_BYTE + ')',
        S_OPEN_INDEX = ONE_BYTE + '[', S_CLOSE_INDEX = ONE_BYTE + ']', S_COMMA = ONE_BYTE + ',',
        S_SEMICOLON = ONE_BYTE + ';', S_COLON = ONE_BYTE + ':', S_DOT = ONE_BYTE + '.',
        S_PLUS = ONE_BYTE + '+', S_MINUS = ONE_BYTE + '-', S_STAR = ONE_BYTE + '*',
        S_SLASH = ONE_BYTE + '/', S_EQUAL = ONE_BYTE + '=', S_LESS = ONE_BYTE + '<',
        S_GREATER = ONE_BYTE + '>', S_AND = ONE_BYTE + '&', S_BAR = ONE_BYTE + '|';
    private static final String SIGNS = "()[],;:.+-*/=<>&|";

    // Faults of reading.
    private static final int CANT_COME = 6, TOO_DEEP = 7;

    // Kinds of nodes.
    private static final int N_TEXT = 0, N_FUNCTION = 1, N_FUNCTION_BLOCK = 2, N_PROGRAM = 3,
        N_SECTION = 4, N_DECLARATION = 5, N_NAME = 6, N_PLACE = 7, N_TYPE = 8, N_ARRAY = 9,
        N_BLOCK_TYPE = 10, N_BODY = 11, N_ASSIGNMENT = 12, N_INVOCATION = 13, N_PARAMETER = 14,
        N_IF = 15, N_CASE = 16, N_CHOICE = 17, N_RANGE = 18, N_FOR = 19, N_EXIT = 20,
        N_RETURN = 21, N_LADDER = 22, N_RUNG = 23, N_ROW = 24, N_CONTACT = 25, N_WIRE = 26,
        N_GAP = 27, N_COIL = 28, N_LINK = 29, N_NUMBER = 30, N_TRUTH = 31, N_ELEMENT = 32,
        N_OUTPUT = 33, N_CALL = 34, N_TWO = 35, N_ONE = 36;

    // Types, and the sections in which a variable may stand.
    private static final int BOOL = 0, INT = 1, DINT = 2;
    private static final int INNER = 0, INPUT = 1, OUTPUT = 2, OWN_NAME = 3;

    // What stands between two operands, as a 35's value.
    private static final int EQUAL = 3, UNEQUAL = 4, AT_LEAST = 8, ADD = 9, DIVIDE = 12;

    // Standard blocks by number; a block of the text has these and its own.
    private static final int TON = 0, TOF = 1, TP = 2, CTU = 3, CTD = 4, R_TRIG = 5, F_TRIG = 6,
        SR = 7, STANDARD_BLOCKS = 9;
    private static final int[] STANDARD_CELLS = {6, 6, 6, 6, 6, 3, 3, 3, 3};

    // Standard functions by number, and how many operands they want.
    private static final int ABS = 0, MIN = 1, MAX = 2, LIMIT = 3, SEL = 4, SHL = 5, SHR = 6,
        TO_INT = 7, TO_DINT = 8, TO_BOOL = 9, STANDARD_FUNCTIONS = 10;
    private static final int[] OPERANDS = {1, 2, 2, 3, 3, 2, 2, 1, 1, 1};

    // Ports of standard blocks: block, section, name, cell, type.
    private static final int P_IN = 60, P_PT = 61, P_Q = 62, P_ET = 63, P_CU = 64, P_R = 65,
        P_PV = 66, P_CV = 67, P_CD = 68, P_LD = 69, P_CLK = 70, P_S1 = 71, P_S = 72, P_R1 = 73,
        P_Q1 = 74, PORT_ROW = 5;
    private static final int[] PORTS = {
        0, INPUT, P_IN, 0, BOOL, 0, INPUT, P_PT, 1, DINT, 0, OUTPUT, P_Q, 2, BOOL, 0, OUTPUT, P_ET, 3, DINT,
        1, INPUT, P_IN, 0, BOOL, 1, INPUT, P_PT, 1, DINT, 1, OUTPUT, P_Q, 2, BOOL, 1, OUTPUT, P_ET, 3, DINT,
        2, INPUT, P_IN, 0, BOOL, 2, INPUT, P_PT, 1, DINT, 2, OUTPUT, P_Q, 2, BOOL, 2, OUTPUT, P_ET, 3, DINT,
        3, INPUT, P_CU, 0, BOOL, 3, INPUT, P_R, 1, BOOL, 3, INPUT, P_PV, 2, INT,
        3, OUTPUT, P_Q, 3, BOOL, 3, OUTPUT, P_CV, 4, INT,
        4, INPUT, P_CD, 0, BOOL, 4, INPUT, P_LD, 1, BOOL, 4, INPUT, P_PV, 2, INT,
        4, OUTPUT, P_Q, 3, BOOL, 4, OUTPUT, P_CV, 4, INT,
        5, INPUT, P_CLK, 0, BOOL, 5, OUTPUT, P_Q, 1, BOOL,
        6, INPUT, P_CLK, 0, BOOL, 6, OUTPUT, P_Q, 1, BOOL,
        7, INPUT, P_S1, 0, BOOL, 7, INPUT, P_R, 1, BOOL, 7, OUTPUT, P_Q1, 2, BOOL,
        8, INPUT, P_S, 0, BOOL, 8, INPUT, P_R1, 1, BOOL, 8, OUTPUT, P_Q1, 2, BOOL};

    // A program's first cells: where IX QX MX IW QW MW begin.
    private static final int[] PLACE_CELLS = {0, 256, 512, 768, 832, 896};
    private static final int BITS_IN_BEHIND = 256, WORDS_IN = 768, WORDS_IN_BEHIND = 832;

    // Instructions, and what each adds to the stack.
    private static final int I_PUSH = 0, I_LOAD = 1, I_STORE = 2, I_TAKE = 3, I_PUT = 4, I_READ = 5,
        I_WRITE = 6, I_TWO = 7, I_ONE = 8, I_CHOOSE = 9, I_GO = 10, I_UNLESS = 11, I_COUNT = 12,
        I_NEXT = 13, I_BACK = 14, I_ENTER = 15, I_CALL = 16, I_BLOCK = 17, I_LEAVE = 18;
    private static final int[] LAID = {1, 1, -1, 0, -2, 1, -1, -1, 0, -2, 0, -1, 0, 0, 0, 0, 0, 0, 0};

    private final byte[] text;
    private final Tokens tokens;
    private final Reader reader;
    private final Scope scope;
    private final Rules rules;
    private final Code code;
    private final Writer writer;
    private final Measure measure;
    private final Machine machine;
    private int bytes;
    private int fault;
    private int place;
    private boolean atHand;

    public CodeMaker() {
        text = new byte[MOST_BYTES];
        Tree tree = new Tree();
        tokens = new Tokens();
        reader = new Reader(tokens, tree);
        scope = new Scope(tree);
        rules = new Rules(tree, scope);
        code = new Code();
        writer = new Writer(tree, scope, code);
        measure = new Measure(code);
        machine = new Machine(scope, code);
        bytes = 0;
        fault = 0;
        place = NONE;
        atHand = false;
    }

    public int clear() {
        int had = bytes;
        bytes = 0;
        return had;
    }

    public int feed(int a, int b, int c, int d, int e) {
        if (bytes > MOST_BYTES - FED) {
            return NONE;
        }
        append(a);
        append(b);
        append(c);
        append(d);
        append(e);
        return bytes;
    }

    private void append(int four) {
        for (int shift = 24; shift >= 0 && bytes < MOST_BYTES; shift -= 8) {
            text[bytes] = (byte) (four >>> shift);
            bytes++;
        }
    }

    public int end(int n) {
        if (n < 0 || n > FED || bytes < FED) {
            return NONE;
        }
        bytes = bytes - FED + n;
        return bytes;
    }

    public int make() {
        atHand = false;
        tokens.scan(text, bytes);
        fault = reader.read();
        place = reader.place;
        if (fault == 0) {
            fault = rules.check();
            place = rules.place;
        }
        if (fault == 0) {
            fault = produce();
        }
        if (fault == 0) {
            place = NONE;
            atHand = true;
            machine.prepare();
        }
        return fault;
    }

    /** Code of a text that keeps the rules; the fault that its size has, or 0. */
    private int produce() {
        place = 0;
        if (scope.blocks > MOST_UNITS) {
            return 50;
        }
        code.forget();
        for (int unit = 0; unit < scope.blocks; unit++) {
            writer.unit(unit);
        }
        if (code.size > MOST_CODE) {
            return 50;
        }
        for (int unit = 0; unit < scope.blocks; unit++) {
            int broken = measure.faultOf(unit);
            if (broken != 0) {
                place = scope.placeOf(unit);
                return broken;
            }
        }
        return 0;
    }

    public int count(int which) {
        if (which < 0 || which > 7) {
            return NONE;
        }
        if (which == 0) {
            return fault;
        }
        if (which == 1) {
            return place;
        }
        if (!atHand) {
            return 0;
        }
        switch (which) {
            case 2:
                return code.units;
            case 3:
                return code.size;
            case 4:
                return scope.allCells;
            case 5:
                return machine.steps;
            case 6:
                return machine.now;
            default:
                return code.bound[code.units - 1];
        }
    }

    public int length(int unit) {
        return hasUnit(unit) ? code.unitSize(unit) : NONE;
    }

    private boolean hasUnit(int unit) {
        return atHand && unit >= 0 && unit < code.units;
    }

    public int told(int unit, int i, int what) {
        if (!hasUnit(unit) || i < 0 || i >= code.unitSize(unit)) {
            return 0;
        }
        int at = code.start[unit] + i;
        switch (what) {
            case 0:
                return code.number[at];
            case 1:
                return code.first[at];
            case 2:
                return code.second[at];
            case 3:
                return code.third[at];
            default:
                return 0;
        }
    }

    public int set(int cell, int v) {
        if (!hasCell(cell)) {
            return 0;
        }
        int was = machine.cells[cell];
        machine.cells[cell] = v;
        return was;
    }

    public int get(int cell) {
        return hasCell(cell) ? machine.cells[cell] : 0;
    }

    private boolean hasCell(int cell) {
        return atHand && cell >= 0 && cell < scope.allCells;
    }

    public int run(int ticks) {
        if (!atHand || ticks < 0 || ticks > MOST_TICKS) {
            return NONE;
        }
        if (code.bound[code.units - 1] > MOST_RUN) {
            return LONG;
        }
        return machine.go(ticks);
    }

    /** The names that have been met, in great letters, numbered from 0 on. */
    private static final class Names {
        private final byte[] letters = new byte[MOST_BYTES + KNOWN_BYTES];
        private final int[] start = new int[MOST_NAMES + 1];
        private final int[] older = new int[MOST_NAMES];
        private final int[] newest = new int[BUCKETS];
        private int known;

        /** Only the names known beforehand stay. */
        void forget() {
            Arrays.fill(newest, NONE);
            known = 0;
            int from = 0;
            for (int i = 0; i < KNOWN.length(); i++) {
                if (KNOWN.charAt(i) == ' ') {
                    settle(i - from);
                    from = i + 1;
                } else {
                    letters[start[known] + i - from] = (byte) KNOWN.charAt(i);
                }
            }
        }

        /** The number of the name that these bytes of the text spell. */
        int numberOf(byte[] text, int from, int size) {
            int at = start[known];
            if (at + size > letters.length) {
                return KNOWN_NAMES - 1;
            }
            for (int i = 0; i < size; i++) {
                letters[at + i] = (byte) great(text[from + i]);
            }
            return settle(size);
        }

        /** The name whose letters lie behind all known ones: it, or the same one before. */
        private int settle(int size) {
            int at = start[known];
            int sum = size;
            for (int i = 0; i < size; i++) {
                sum = sum * 31 + letters[at + i];
            }
            int bucket = (sum ^ (sum >>> 10)) & (BUCKETS - 1);
            for (int i = newest[bucket]; i >= 0; i = older[i]) {
                if (isSame(i, at, size)) {
                    return i;
                }
            }
            if (known >= MOST_NAMES) {
                return KNOWN_NAMES - 1;
            }
            older[known] = newest[bucket];
            newest[bucket] = known;
            start[known + 1] = at + size;
            known++;
            return known - 1;
        }

        private boolean isSame(int name, int at, int size) {
            if (start[name + 1] - start[name] != size) {
                return false;
            }
            for (int i = 0; i < size; i++) {
                if (letters[start[name] + i] != letters[at + i]) {
                    return false;
                }
            }
            return true;
        }

        static int great(int letter) {
            return letter >= 'a' && letter <= 'z' ? letter - 32 : letter;
        }
    }

    /** The text's tokens; behind the first one that is badly written there is none. */
    private static final class Tokens {
        private static final long TOO_MUCH = 1L << 40;

        final int[] kind = new int[MOST_BYTES + 1];
        final int[] place = new int[MOST_BYTES + 1];
        final int[] value = new int[MOST_BYTES + 1];
        private final Names names = new Names();
        private byte[] text;
        private int bytes;
        private int size;
        private int reached;
        private boolean ended;

        void scan(byte[] newText, int newBytes) {
            text = newText;
            bytes = newBytes;
            size = 0;
            ended = false;
            names.forget();
            int at = 0;
            for (int turn = 0; turn <= MOST_BYTES && !ended; turn++) {
                at = behindBlanks(at);
                if (!ended) {
                    at = behindToken(at);
                }
            }
        }

        private int byteAt(int i) {
            return i >= 0 && i < bytes ? text[i] & 255 : NONE;
        }

        private void add(int newKind, int newPlace, int newValue) {
            if (size <= MOST_BYTES) {
                kind[size] = newKind;
                place[size] = newPlace;
                value[size] = newValue;
                size++;
            }
        }

        /** A token that is badly written, or blanks that do not end. */
        private int bad(int fault, int at) {
            add(T_BAD, at, fault);
            ended = true;
            return bytes;
        }

        private int behindBlanks(int from) {
            int at = from;
            for (int turn = 0; turn < MOST_BYTES; turn++) {
                int b = byteAt(at);
                if (b == 9 || b == 10 || b == 13 || b == 32) {
                    at++;
                } else if (b == '(' && byteAt(at + 1) == '*') {
                    int behind = behindRemark(at + 2);
                    if (behind == NONE) {
                        return bad(2, at);
                    }
                    at = behind;
                } else {
                    return at;
                }
            }
            return at;
        }

        private int behindRemark(int from) {
            for (int i = from; i + 1 < bytes; i++) {
                if (text[i] == '*' && text[i + 1] == ')') {
                    return i + 2;
                }
            }
            return NONE;
        }

        private int behindToken(int at) {
            int b = byteAt(at);
            if (b == NONE) {
                add(T_END, bytes, 0);
                ended = true;
                return at;
            }
            if (Names.great(b) == 'T' && byteAt(at + 1) == '#') {
                return time(at);
            }
            if (digit(b, 10) != NONE) {
                return number(at);
            }
            if (isNameByte(b)) {
                return name(at);
            }
            return b == '%' ? placeName(at) : sign(at, b);
        }

        private static boolean isNameByte(int b) {
            int letter = Names.great(b);
            return letter >= 'A' && letter <= 'Z' || letter >= '0' && letter <= '9' || letter == '_';
        }

        /** What a byte means as a digit; NONE: it is none. */
        private static int digit(int b, int base) {
            int letter = Names.great(b);
            int means = NONE;
            if (letter >= '0' && letter <= '9') {
                means = letter - '0';
            } else if (letter >= 'A' && letter <= 'F') {
                means = letter - 'A' + 10;
            }
            return means < base ? means : NONE;
        }

        private int name(int at) {
            int i = at;
            while (i < bytes && isNameByte(byteAt(i))) {
                i++;
            }
            if (i - at > MOST_NAME_BYTES) {
                return bad(3, at);
            }
            int number = names.numberOf(text, at, i - at);
            add(number < WORDS ? number : T_NAME, at, number);
            return i;
        }

        /** What the digits from there on mean, or TOO_MUCH; they end where it is reached. */
        private long digits(int from, int base) {
            long means = 0;
            int i = from;
            while (i < bytes && digit(byteAt(i), base) != NONE) {
                means = Math.min(means * base + digit(byteAt(i), base), TOO_MUCH);
                i++;
            }
            reached = i;
            return means;
        }

        private int number(int at) {
            long means = digits(at, 10);
            if (byteAt(reached) == '#') {
                if (means != 16 && means != 2) {
                    return bad(4, at);
                }
                int from = reached + 1;
                means = digits(from, (int) means);
                if (reached == from) {
                    return bad(4, at);
                }
            }
            return numberEnd(at, means);
        }

        private int time(int at) {
            long means = digits(at + 2, 10);
            if (reached == at + 2) {
                return bad(4, at);
            }
            int letter = Names.great(byteAt(reached));
            if (letter == 'M' && Names.great(byteAt(reached + 1)) == 'S') {
                reached += 2;
            } else if (letter == 'S' || letter == 'M' || letter == 'H') {
                means = means * (letter == 'S' ? 1000 : letter == 'M' ? 60000 : 3600000);
                reached += 1;
            } else {
                return bad(4, at);
            }
            return numberEnd(at, means);
        }

        private int numberEnd(int at, long means) {
            if (means > MOST_NUMBER || isNameByte(byteAt(reached))) {
                return bad(4, at);
            }
            add(T_NUMBER, at, (int) means);
            return reached;
        }

        private int placeName(int at) {
            int area = "IQM".indexOf((char) (Names.great(byteAt(at + 1)) & 255));
            int size = Names.great(byteAt(at + 2));
            if (area < 0 || size != 'X' && size != 'W') {
                return bad(5, at);
            }
            long means = digits(at + 3, 10);
            if (reached == at + 3 || means > (size == 'X' ? 255 : 63) || isNameByte(byteAt(reached))) {
                return bad(5, at);
            }
            add(T_PLACE, at, 256 * (size == 'X' ? area : area + 3) + (int) means);
            return reached;
        }

        private int sign(int at, int b) {
            int two = twoByteSign(b, byteAt(at + 1));
            if (two != NONE) {
                add(two, at, 0);
                return at + 2;
            }
            if (SIGNS.indexOf((char) b) < 0) {
                return bad(1, at);
            }
            add(ONE_BYTE + b, at, 0);
            return at + 1;
        }

        private static int twoByteSign(int b, int next) {
            if (next == '=') {
                return b == ':' ? S_ASSIGN : b == '<' ? S_AT_MOST : b == '>' ? S_AT_LEAST : NONE;
            }
            if (b == '.' && next == '.') {
                return S_DOTS;
            }
            return b == '<' && next == '>' ? S_UNLIKE : NONE;
        }
    }

    /** Nodes in the document's order: a node's children follow it, up to the one behind it. */
    private static final class Tree {
        final int[] kind = new int[MOST_NODES + 1];
        final int[] place = new int[MOST_NODES + 1];
        final int[] value = new int[MOST_NODES + 1];
        /** The type of what has one; the own cell of what has that. */
        final int[] type = new int[MOST_NODES + 1];
        final int[] behind = new int[MOST_NODES + 1];
        int size;

        /** A new last node without children. */
        int add(int newKind, int newPlace, int newValue) {
            int n = Math.min(size, MOST_NODES - 1);
            kind[n] = newKind;
            place[n] = newPlace;
            value[n] = newValue;
            type[n] = BOOL;
            behind[n] = n + 1;
            size = n + 1;
            return n;
        }

        /** All nodes that came since are below this one. */
        void finish(int n) {
            behind[n] = size;
        }

        /** A new node n, with all from n on below it. */
        void wrap(int n, int newKind, int newPlace, int newValue) {
            add(newKind, newPlace, newValue);
            for (int i = size - 1; i > n; i--) {
                kind[i] = kind[i - 1];
                place[i] = place[i - 1];
                value[i] = value[i - 1];
                behind[i] = behind[i - 1] + 1;
            }
            kind[n] = newKind;
            place[n] = newPlace;
            value[n] = newValue;
            behind[n] = size;
        }

        boolean isConstant(int n) {
            return kind[n] == N_NUMBER || kind[n] == N_TRUTH;
        }

        /** Of a 19: what is added each time. */
        int stepOf(int n) {
            return kind[n + 3] == N_BODY ? 1 : value[n + 3];
        }

        /** Of a 19 whose step is not 0: how often it is gone through. */
        long timesOf(int n) {
            long step = stepOf(n);
            long way = (long) value[n + 2] - value[n + 1];
            if (step == 0 || way != 0 && way < 0 != step < 0) {
                return 0;
            }
            return way / step + 1;
        }

        /** An expression whose value is known becomes that number; its type stays. */
        void becomeNumber(int n, int means) {
            kind[n] = N_NUMBER;
            value[n] = means;
        }
    }

    /** The tree is made of the tokens, or the first fault is found. */
    private static final class Reader {
        int place;
        private final Tokens tokens;
        private final Tree tree;
        private int fault;
        private int at;
        private int now;
        private int open;

        Reader(Tokens tokens, Tree tree) {
            this.tokens = tokens;
            this.tree = tree;
        }

        int read() {
            fault = 0;
            place = NONE;
            open = 0;
            at = 0;
            now = tokens.kind[0];
            tree.size = 0;
            int root = tree.add(N_TEXT, 0, 0);
            for (int turn = 0; turn < MOST_BYTES && isBlockWord(); turn++) {
                block();
            }
            if (now != T_END) {
                refuse(CANT_COME);
            }
            tree.finish(root);
            return fault;
        }

        private void step() {
            if (now != T_STOPPED && at < MOST_BYTES) {
                at++;
                now = tokens.kind[at];
            }
        }

        private int nextKind() {
            return at < MOST_BYTES ? tokens.kind[at + 1] : T_END;
        }

        /** The token can't come here; one that is badly written has a fault of its own. */
        private void refuse(int why) {
            if (fault == 0) {
                fault = now == T_BAD ? tokens.value[at] : why;
                place = tokens.place[at];
            }
            now = T_STOPPED;
        }

        private void expect(int kind) {
            if (now == kind) {
                step();
            } else {
                refuse(CANT_COME);
            }
        }

        /** The token is open from here on. */
        private void stepInto() {
            if (open >= MOST_OPEN) {
                refuse(TOO_DEEP);
            } else {
                open++;
                step();
            }
        }

        private int addHere(int kind, int value) {
            return tree.add(kind, tokens.place[at], value);
        }

        private void leaf(int token, int kind, int value) {
            if (now == token) {
                tree.add(kind, tokens.place[at], value);
                step();
            } else {
                refuse(CANT_COME);
            }
        }

        private boolean isBlockWord() {
            return now == W_FUNCTION || now == W_FUNCTION_BLOCK || now == W_PROGRAM;
        }

        private void block() {
            int word = now;
            int node = addHere(N_FUNCTION + (word - W_FUNCTION) / 2, 0);
            step();
            tree.value[node] = tokens.value[at];
            expect(T_NAME);
            if (word == W_FUNCTION) {
                expect(S_COLON);
                simpleType();
            }
            for (int turn = 0; turn < MOST_BYTES && now >= W_VAR && now <= W_VAR_OUTPUT; turn++) {
                section();
            }
            if (now == W_LADDER) {
                ladder();
            } else {
                body();
            }
            expect(word + 1);
            tree.finish(node);
        }

        private void section() {
            int node = addHere(N_SECTION, now - W_VAR);
            step();
            for (int turn = 0; turn < MOST_BYTES && now == T_NAME; turn++) {
                declaration();
            }
            expect(W_END_VAR);
            tree.finish(node);
        }

        private void declaration() {
            int node = addHere(N_DECLARATION, 0);
            leaf(T_NAME, N_NAME, tokens.value[at]);
            for (int turn = 0; turn < MOST_BYTES && now == S_COMMA; turn++) {
                step();
                leaf(T_NAME, N_NAME, tokens.value[at]);
            }
            if (now == W_AT) {
                step();
                leaf(T_PLACE, N_PLACE, tokens.value[at]);
            }
            expect(S_COLON);
            type();
            if (now == S_ASSIGN) {
                step();
                constant();
            }
            expect(S_SEMICOLON);
            tree.finish(node);
        }

        private void type() {
            if (now == W_ARRAY) {
                int node = addHere(N_ARRAY, 0);
                step();
                expect(S_OPEN_INDEX);
                constant();
                expect(S_DOTS);
                constant();
                expect(S_CLOSE_INDEX);
                expect(W_OF);
                simpleType();
                tree.finish(node);
            } else if (now == T_NAME) {
                leaf(T_NAME, N_BLOCK_TYPE, tokens.value[at]);
            } else {
                simpleType();
            }
        }

        private void simpleType() {
            if (now >= W_BOOL && now <= W_DINT) {
                tree.add(N_TYPE, tokens.place[at], now - W_BOOL);
                step();
            } else {
                refuse(CANT_COME);
            }
        }

        private boolean startsConstant() {
            return now == S_MINUS || now == T_NUMBER || now == W_TRUE || now == W_FALSE;
        }

        private void constant() {
            int sign = now == S_MINUS ? -1 : 1;
            int begin = at;
            if (sign < 0) {
                step();
            }
            if (now == T_NUMBER) {
                tree.add(N_NUMBER, tokens.place[begin], sign * tokens.value[at]);
                step();
            } else if (sign > 0 && (now == W_TRUE || now == W_FALSE)) {
                tree.add(N_TRUTH, tokens.place[at], now == W_TRUE ? 1 : 0);
                step();
            } else {
                refuse(CANT_COME);
            }
        }

        private boolean startsStatement() {
            return now == S_SEMICOLON || now == T_NAME || now == W_IF || now == W_CASE
                || now == W_FOR || now == W_EXIT || now == W_RETURN;
        }

        private void body() {
            int node = tree.add(N_BODY, at > 0 ? tokens.place[at - 1] : 0, 0);
            for (int turn = 0; turn < MOST_BYTES && startsStatement(); turn++) {
                statement();
            }
            tree.finish(node);
        }

        private void statement() {
            switch (now) {
                case W_IF:
                    ifStatement();
                    break;
                case W_CASE:
                    caseStatement();
                    break;
                case W_FOR:
                    forStatement();
                    break;
                case W_EXIT:
                    leaf(W_EXIT, N_EXIT, 0);
                    break;
                case W_RETURN:
                    leaf(W_RETURN, N_RETURN, 0);
                    break;
                case T_NAME:
                    if (nextKind() == S_OPEN) {
                        invocation();
                    } else {
                        assignment();
                    }
                    break;
                default:
                    break;
            }
            expect(S_SEMICOLON);
        }

        private void assignment() {
            int node = addHere(N_ASSIGNMENT, 0);
            if (nextKind() == S_OPEN_INDEX) {
                int element = addHere(N_ELEMENT, tokens.value[at]);
                step();
                stepInto();
                expression(0, true);
                expect(S_CLOSE_INDEX);
                open--;
                tree.finish(element);
            } else {
                leaf(T_NAME, N_NAME, tokens.value[at]);
            }
            tree.place[node] = tokens.place[at];
            expect(S_ASSIGN);
            expression(0, true);
            tree.finish(node);
        }

        private void invocation() {
            int node = addHere(N_INVOCATION, tokens.value[at]);
            step();
            stepInto();
            for (int turn = 0; turn < MOST_BYTES && now != S_CLOSE && now != T_STOPPED; turn++) {
                if (turn > 0) {
                    expect(S_COMMA);
                }
                int parameter = addHere(N_PARAMETER, tokens.value[at]);
                expect(T_NAME);
                expect(S_ASSIGN);
                expression(0, true);
                tree.finish(parameter);
            }
            expect(S_CLOSE);
            open--;
            tree.finish(node);
        }

        private void ifStatement() {
            int node = addHere(N_IF, 0);
            stepInto();
            expression(0, true);
            expect(W_THEN);
            body();
            for (int turn = 0; turn < MOST_BYTES && now == W_ELSIF; turn++) {
                step();
                expression(0, true);
                expect(W_THEN);
                body();
            }
            if (now == W_ELSE) {
                step();
                body();
            }
            expect(W_END_IF);
            open--;
            tree.finish(node);
        }

        private void caseStatement() {
            int node = addHere(N_CASE, 0);
            stepInto();
            expression(0, true);
            expect(W_OF);
            for (int turn = 0; turn < MOST_BYTES && startsConstant(); turn++) {
                int choice = addHere(N_CHOICE, 0);
                ranges();
                expect(S_COLON);
                body();
                tree.finish(choice);
            }
            if (now == W_ELSE) {
                step();
                body();
            }
            expect(W_END_CASE);
            open--;
            tree.finish(node);
        }

        private void ranges() {
            boolean more = true;
            for (int turn = 0; turn < MOST_BYTES && more; turn++) {
                int range = addHere(N_RANGE, 0);
                constant();
                if (now == S_DOTS) {
                    step();
                    constant();
                }
                tree.finish(range);
                more = now == S_COMMA;
                if (more) {
                    step();
                }
            }
        }

        private void forStatement() {
            int node = addHere(N_FOR, 0);
            stepInto();
            tree.value[node] = tokens.value[at];
            expect(T_NAME);
            expect(S_ASSIGN);
            constant();
            expect(W_TO);
            constant();
            if (now == W_BY) {
                step();
                constant();
            }
            expect(W_DO);
            body();
            expect(W_END_FOR);
            open--;
            tree.finish(node);
        }

        /**
         * Operands and what is between them, if that binds as close as told;
         * this is open until the outermost expression ends.
         */
        private void expression(int closeness, boolean isOutermost) {
            int before = open;
            int left = tree.size;
            operand();
            for (int turn = 0; turn <= MOST_OPEN && closenessOf(now) >= closeness; turn++) {
                int own = closenessOf(now);
                tree.wrap(left, N_TWO, tokens.place[at], operatorOf(now));
                stepInto();
                expression(own + 1, false);
                tree.finish(left);
            }
            if (isOutermost) {
                open = before;
            }
        }

        private static int closenessOf(int token) {
            int operator = operatorOf(token);
            if (operator < EQUAL) {
                return operator;
            }
            return operator <= UNEQUAL ? 3 : operator <= AT_LEAST ? 4 : operator < ADD + 2 ? 5 : 6;
        }

        /** A 35's value for what stands between operands; NONE: it can't. */
        private static int operatorOf(int token) {
            switch (token) {
                case W_OR:
                    return 0;
                case W_XOR:
                    return 1;
                case W_AND:
                case S_AND:
                    return 2;
                case S_EQUAL:
                    return EQUAL;
                case S_UNLIKE:
                    return UNEQUAL;
                case S_LESS:
                    return 5;
                case S_GREATER:
                    return 6;
                case S_AT_MOST:
                    return 7;
                case S_AT_LEAST:
                    return AT_LEAST;
                case S_PLUS:
                    return ADD;
                case S_MINUS:
                    return 10;
                case S_STAR:
                    return 11;
                case S_SLASH:
                    return DIVIDE;
                case W_MOD:
                    return 13;
                default:
                    return NONE;
            }
        }

        private void operand() {
            switch (now) {
                case S_MINUS:
                case W_NOT:
                    int node = addHere(N_ONE, now == W_NOT ? 1 : 0);
                    stepInto();
                    operand();
                    open--;
                    tree.finish(node);
                    break;
                case S_OPEN:
                    stepInto();
                    expression(0, false);
                    expect(S_CLOSE);
                    open--;
                    break;
                case T_NUMBER:
                    leaf(T_NUMBER, N_NUMBER, tokens.value[at]);
                    break;
                case W_TRUE:
                    leaf(W_TRUE, N_TRUTH, 1);
                    break;
                case W_FALSE:
                    leaf(W_FALSE, N_TRUTH, 0);
                    break;
                case T_NAME:
                    namedOperand();
                    break;
                default:
                    refuse(CANT_COME);
                    break;
            }
        }

        private void namedOperand() {
            int name = tokens.value[at];
            int node;
            switch (nextKind()) {
                case S_OPEN_INDEX:
                    node = addHere(N_ELEMENT, name);
                    step();
                    stepInto();
                    expression(0, false);
                    expect(S_CLOSE_INDEX);
                    open--;
                    break;
                case S_DOT:
                    node = addHere(N_OUTPUT, name);
                    step();
                    step();
                    leaf(T_NAME, N_NAME, tokens.value[at]);
                    break;
                case S_OPEN:
                    node = addHere(N_CALL, name);
                    step();
                    stepInto();
                    for (int turn = 0; turn < MOST_BYTES && now != S_CLOSE && now != T_STOPPED; turn++) {
                        if (turn > 0) {
                            expect(S_COMMA);
                        }
                        expression(0, false);
                    }
                    expect(S_CLOSE);
                    open--;
                    break;
                default:
                    node = addHere(N_NAME, name);
                    step();
                    break;
            }
            tree.finish(node);
        }

        private void ladder() {
            int node = addHere(N_LADDER, 0);
            step();
            for (int turn = 0; turn < MOST_BYTES && now == W_RUNG; turn++) {
                int rung = addHere(N_RUNG, 0);
                step();
                row();
                for (int i = 0; i < MOST_BYTES && startsCell(); i++) {
                    row();
                }
                expect(W_END_RUNG);
                tree.finish(rung);
            }
            expect(W_END_LADDER);
            tree.finish(node);
        }

        private boolean startsCell() {
            return now == T_NAME || now == S_SLASH || now == S_GREATER || now == S_LESS
                || now == S_MINUS || now == S_STAR || now == S_OPEN;
        }

        private void row() {
            int node = addHere(N_ROW, 0);
            cell();
            for (int turn = 0; turn < MOST_BYTES && (now == S_BAR || startsCell()); turn++) {
                if (now == S_BAR) {
                    addHere(N_LINK, 0);
                    step();
                }
                cell();
            }
            expect(S_SEMICOLON);
            tree.finish(node);
        }

        private void cell() {
            if (now == S_MINUS || now == S_STAR) {
                leaf(now, now == S_MINUS ? N_WIRE : N_GAP, 0);
                return;
            }
            boolean isCoil = now == S_OPEN;
            int node = addHere(isCoil ? N_COIL : N_CONTACT, 0);
            if (isCoil) {
                step();
            }
            int way = isCoil ? coilWay() : contactWay();
            tree.value[node] = way;
            if (way != 0) {
                step();
            }
            boolean isOutput = !isCoil && now == T_NAME && nextKind() == S_DOT;
            int output = tree.size;
            if (isOutput) {
                addHere(N_OUTPUT, tokens.value[at]);
                step();
                step();
            }
            leaf(T_NAME, N_NAME, tokens.value[at]);
            if (isOutput) {
                tree.finish(output);
            }
            if (isCoil) {
                expect(S_CLOSE);
            }
            tree.finish(node);
        }

        private int contactWay() {
            return now == S_SLASH ? 1 : now == S_GREATER ? 2 : now == S_LESS ? 3 : 0;
        }

        private int coilWay() {
            return now == S_SLASH ? 1 : now == S_PLUS ? 2 : now == S_MINUS ? 3 : 0;
        }
    }

    /** The text's blocks and their variables, as the rules come upon them. */
    private static final class Scope {
        // By variable: its name, cell, node of its type, section, constant.
        final int[] name = new int[MOST_VARIABLES];
        final int[] cell = new int[MOST_VARIABLES];
        final int[] typeNode = new int[MOST_VARIABLES];
        final int[] section = new int[MOST_VARIABLES];
        final int[] initial = new int[MOST_VARIABLES];
        // By block: its node, kind, first variable, how many cells, and where
        // these begin among all cells.
        final int[] kind = new int[MOST_BLOCKS];
        final int[] node = new int[MOST_BLOCKS];
        final int[] cells = new int[MOST_BLOCKS];
        final int[] base = new int[MOST_BLOCKS];
        int blocks;
        int allCells;
        private final int[] firstVariable = new int[MOST_BLOCKS];
        private final int[] variableOf = new int[MOST_NAMES];
        private final int[] blockOf = new int[MOST_NAMES];
        private final Tree tree;
        private int variables;

        Scope(Tree tree) {
            this.tree = tree;
        }

        void forget() {
            Arrays.fill(variableOf, NONE);
            Arrays.fill(blockOf, NONE);
            blocks = 0;
            variables = 0;
            allCells = 0;
        }

        int current() {
            return blocks - 1;
        }

        boolean isIn(int wanted) {
            return blocks > 0 && kind[blocks - 1] == wanted;
        }

        int placeOf(int b) {
            return tree.place[node[b]];
        }

        int firstOf(int b) {
            return firstVariable[b];
        }

        /** The variables of a block are those from its first one up to this. */
        int behindOf(int b) {
            return b + 1 < blocks ? firstVariable[b + 1] : variables;
        }

        static boolean isStandard(int someName) {
            return someName >= WORDS && someName < FIRST_PORT;
        }

        boolean isBlock(int someName) {
            return blockOf[someName] != NONE;
        }

        /** A block begins: a FUNCTION's own name is its first variable. */
        void begin(int n) {
            int b = Math.min(blocks, MOST_BLOCKS - 1);
            blocks = b + 1;
            kind[b] = tree.kind[n];
            node[b] = n;
            base[b] = 0;
            firstVariable[b] = variables;
            blockOf[tree.value[n]] = b;
            cells[b] = kind[b] == N_PROGRAM ? PLACES : 0;
            if (kind[b] == N_FUNCTION) {
                declare(tree.value[n]);
                describe(variables - 1, n + 1, OWN_NAME, 0);
                cells[b] = 1;
            }
        }

        void declare(int someName) {
            int v = Math.min(variables, MOST_VARIABLES - 1);
            variables = v + 1;
            name[v] = someName;
            variableOf[someName] = v;
        }

        void describe(int v, int newType, int newSection, int newInitial) {
            typeNode[v] = newType;
            section[v] = newSection;
            initial[v] = newInitial;
            cell[v] = 0;
        }

        /** The last ones declared get their cells: at the place told, or one behind the other. */
        void describeLast(int names, int at, int newType, int newSection, int newInitial) {
            for (int v = Math.max(0, variables - names); v < variables; v++) {
                describe(v, newType, newSection, newInitial);
                if (at == NONE) {
                    cell[v] = cells[current()];
                    cells[current()] += sizeOf(newType);
                } else {
                    cell[v] = at;
                }
            }
        }

        /** How many cells a variable of this type has. */
        int sizeOf(int type) {
            if (tree.kind[type] == N_TYPE) {
                return 1;
            }
            int told = tree.value[type];
            if (tree.kind[type] == N_ARRAY) {
                return told;
            }
            return told < STANDARD_BLOCKS ? STANDARD_CELLS[told] : cells[told - STANDARD_BLOCKS];
        }

        /** A variable of this block; NONE: there is none. */
        int variable(int someName) {
            int v = variableOf[someName];
            return blocks > 0 && v >= firstVariable[blocks - 1] ? v : NONE;
        }

        /** 8, 9 or 10: simple, an array, an instance. */
        int formOf(int v) {
            return tree.kind[typeNode[v]];
        }

        /** Of a simple variable, or of an array's elements. */
        int typeOf(int v) {
            return formOf(v) == N_ARRAY ? tree.type[typeNode[v]] : tree.value[typeNode[v]];
        }

        /** Of an instance: a standard block's number, or behind these the text's. */
        int blockTypeOf(int v) {
            return tree.value[typeNode[v]];
        }

        /** A standard block or a FUNCTION_BLOCK before, numbered as by blockTypeOf. */
        int blockNamed(int someName) {
            if (someName >= WORDS && someName < FIRST_FUNCTION) {
                return someName - WORDS;
            }
            int b = blockOf[someName];
            return b != NONE && b < current() && kind[b] == N_FUNCTION_BLOCK ? STANDARD_BLOCKS + b : NONE;
        }

        /** A standard function, or behind these a FUNCTION before. */
        int functionNamed(int someName) {
            if (someName >= FIRST_FUNCTION && someName < FIRST_PORT) {
                return someName - FIRST_FUNCTION;
            }
            int b = blockOf[someName];
            return b != NONE && b < current() && kind[b] == N_FUNCTION ? STANDARD_FUNCTIONS + b : NONE;
        }

        int inputsOf(int b) {
            int inputs = 0;
            for (int v = firstOf(b); v < behindOf(b); v++) {
                inputs += section[v] == INPUT ? 1 : 0;
            }
            return inputs;
        }

        /** An input's or output's cell, times 4, and its type; NONE: there is none. */
        int port(int block, int someName, int wanted) {
            if (block < STANDARD_BLOCKS) {
                return standardPort(block, someName, wanted);
            }
            int b = block - STANDARD_BLOCKS;
            for (int v = firstOf(b); v < behindOf(b); v++) {
                if (name[v] == someName && section[v] == wanted) {
                    return 4 * cell[v] + typeOf(v);
                }
            }
            return NONE;
        }

        private static int standardPort(int block, int someName, int wanted) {
            for (int i = 0; i + PORT_ROW <= PORTS.length; i += PORT_ROW) {
                if (PORTS[i] == block && PORTS[i + 1] == wanted && PORTS[i + 2] == someName) {
                    return 4 * PORTS[i + 3] + PORTS[i + 4];
                }
            }
            return NONE;
        }

        /** Behind a block's variables come its own cells: of 16 and 19, of 25, of a ladder. */
        void giveOwnCells() {
            int b = current();
            boolean isLadder = false;
            for (int i = node[b]; i < tree.behind[node[b]]; i++) {
                if (tree.kind[i] == N_CASE || tree.kind[i] == N_FOR) {
                    tree.type[i] = cells[b];
                    cells[b]++;
                }
            }
            for (int i = node[b]; i < tree.behind[node[b]]; i++) {
                isLadder |= tree.kind[i] == N_LADDER;
                if (tree.kind[i] == N_CONTACT && tree.value[i] >= 2) {
                    tree.type[i] = cells[b];
                    cells[b]++;
                }
            }
            cells[b] += isLadder ? POWERS : 0;
        }

        /** The PROGRAM, which is the last block, has the first cells, then come the FUNCTIONS'. */
        void placeCells() {
            allCells = cells[current()];
            for (int b = 0; b < current(); b++) {
                if (kind[b] == N_FUNCTION) {
                    base[b] = allCells;
                    allCells += cells[b];
                }
            }
        }
    }

    /** The rules are asked of each node behind its children. */
    private static final class Rules {
        int place;
        private final int[] path = new int[MOST_PATH];
        private final boolean[] isUsed = new boolean[PLACES];
        private final Tree tree;
        private final Scope scope;
        private final Expressions expressions;
        private int depth;
        private int fault;

        Rules(Tree tree, Scope scope) {
            this.tree = tree;
            this.scope = scope;
            expressions = new Expressions(tree, scope);
        }

        int check() {
            scope.forget();
            depth = 0;
            fault = 0;
            place = NONE;
            for (int i = 0; i < PLACES; i++) {
                isUsed[i] = false;
            }
            for (int n = 0; n <= tree.size && fault == 0; n++) {
                while (depth > 0 && fault == 0 && tree.behind[path[depth - 1]] <= n) {
                    depth--;
                    tell(look(path[depth]), path[depth]);
                }
                if (n < tree.size && fault == 0) {
                    enter(n);
                }
            }
            return fault;
        }

        private void tell(int broken, int n) {
            if (broken != 0) {
                fault = broken;
                place = tree.place[n];
            }
        }

        private void enter(int n) {
            if (tree.kind[n] >= N_FUNCTION && tree.kind[n] <= N_PROGRAM) {
                tell(begin(n), n);
            }
            if (depth < MOST_PATH) {
                path[depth] = n;
                depth++;
            }
        }

        /** The node above the one that is looked at. */
        private int parent() {
            return depth > 0 ? path[depth - 1] : 0;
        }

        private int begin(int n) {
            int name = tree.value[n];
            if (scope.isIn(N_PROGRAM)) {
                return 10;
            }
            if (Scope.isStandard(name) || scope.isBlock(name)) {
                return 11;
            }
            scope.begin(n);
            return 0;
        }

        private int look(int n) {
            switch (tree.kind[n]) {
                case N_TEXT:
                    return lookAtText();
                case N_FUNCTION:
                case N_FUNCTION_BLOCK:
                case N_PROGRAM:
                    return lookAtBlock();
                case N_SECTION:
                    return lookAtSection(n);
                case N_DECLARATION:
                    return lookAtDeclaration(n);
                case N_NAME:
                    return lookAtName(n);
                case N_PLACE:
                    return lookAtPlace(n);
                case N_ARRAY:
                    return lookAtArray(n);
                case N_BLOCK_TYPE:
                    return lookAtBlockType(n);
                case N_RUNG:
                    return lookAtRung(n);
                case N_CONTACT:
                    return tree.type[n + 1] == BOOL ? 0 : 41;
                case N_COIL:
                    return lookAtCoil(n);
                case N_LINK:
                    return lookAtLink();
                default:
                    return tree.kind[n] < N_RUNG ? lookAtStatement(n) : expressions.look(n);
            }
        }

        private int lookAtStatement(int n) {
            switch (tree.kind[n]) {
                case N_ASSIGNMENT:
                    return lookAtAssignment(n);
                case N_INVOCATION:
                    return lookAtInvocation(n);
                case N_PARAMETER:
                    return lookAtParameter(n);
                case N_IF:
                    return lookAtIf(n);
                case N_CASE:
                    return tree.type[n + 1] == BOOL ? 34 : 0;
                case N_RANGE:
                    return lookAtRange(n);
                case N_FOR:
                    return lookAtFor(n);
                case N_EXIT:
                    return isInLoop() ? 0 : 37;
                default:
                    return 0;
            }
        }

        private int lookAtText() {
            if (!scope.isIn(N_PROGRAM)) {
                return 10;
            }
            scope.placeCells();
            return scope.allCells > MOST_CELLS ? 42 : 0;
        }

        private int lookAtBlock() {
            if (scope.isIn(N_FUNCTION) && scope.inputsOf(scope.current()) > MOST_INPUTS) {
                return 44;
            }
            scope.giveOwnCells();
            return 0;
        }

        private int lookAtSection(int n) {
            int section = tree.value[n];
            boolean isWrong = scope.isIn(N_PROGRAM) && section != INNER
                || scope.isIn(N_FUNCTION) && section == OUTPUT;
            return isWrong ? 13 : 0;
        }

        private int lookAtName(int n) {
            int above = tree.kind[parent()];
            if (above == N_OUTPUT) {
                return 0;
            }
            if (above != N_DECLARATION) {
                return expressions.lookAtName(n);
            }
            int name = tree.value[n];
            if (scope.variable(name) != NONE || scope.isBlock(name) || Scope.isStandard(name)) {
                return 12;
            }
            scope.declare(name);
            return 0;
        }

        /** A place becomes its cell. */
        private int lookAtPlace(int n) {
            int told = tree.value[n];
            int cell = PLACE_CELLS[told >> 8] + (told & 255);
            boolean hasOneName = n - parent() == 2;
            if (!scope.isIn(N_PROGRAM) || !hasOneName || isUsed[cell]) {
                return 14;
            }
            isUsed[cell] = true;
            tree.value[n] = cell;
            return 0;
        }

        /** An array's value becomes how many elements it has. */
        private int lookAtArray(int n) {
            int low = n + 1;
            int high = n + 2;
            if (scope.isIn(N_FUNCTION) || tree.kind[low] == N_TRUTH || tree.kind[high] == N_TRUTH) {
                return 16;
            }
            long elements = (long) tree.value[high] - tree.value[low] + 1;
            if (elements < 1 || elements > MOST_ELEMENTS) {
                return 16;
            }
            tree.value[n] = (int) elements;
            tree.type[n] = tree.value[n + 3];
            return 0;
        }

        private int lookAtBlockType(int n) {
            int block = scope.blockNamed(tree.value[n]);
            if (block == NONE || scope.isIn(N_FUNCTION)) {
                return 17;
            }
            tree.value[n] = block;
            return 0;
        }

        private int lookAtDeclaration(int n) {
            int section = tree.value[parent()];
            int type = n + 1;
            while (type < tree.behind[n] && tree.kind[type] == N_NAME) {
                type++;
            }
            int names = type - n - 1;
            int cell = NONE;
            if (tree.kind[type] == N_PLACE) {
                cell = tree.value[type];
                type++;
            }
            if (section != INNER && tree.kind[type] != N_TYPE) {
                return 43;
            }
            if (cell != NONE && !fitsPlace(type, cell)) {
                return 15;
            }
            int constant = tree.behind[type] < tree.behind[n] ? tree.behind[type] : NONE;
            if (constant != NONE && (isPlaceRead(cell) || !mayBegin(type, constant))) {
                return 18;
            }
            scope.describeLast(names, cell, type, section, constant == NONE ? 0 : tree.value[constant]);
            return scope.cells[scope.current()] > MOST_BLOCK_CELLS ? 19 : 0;
        }

        private boolean fitsPlace(int type, int cell) {
            return tree.kind[type] == N_TYPE && tree.value[type] == (cell < WORDS_IN ? BOOL : INT);
        }

        /** IX or IW. */
        private static boolean isPlaceRead(int cell) {
            return cell >= 0 && cell < BITS_IN_BEHIND || cell >= WORDS_IN && cell < WORDS_IN_BEHIND;
        }

        /** Whether a variable of this type may have this constant. */
        private boolean mayBegin(int type, int constant) {
            if (tree.kind[type] == N_BLOCK_TYPE) {
                return false;
            }
            int simple = tree.kind[type] == N_ARRAY ? tree.type[type] : tree.value[type];
            if (tree.kind[constant] == N_TRUTH || simple == BOOL) {
                return tree.kind[constant] == N_TRUTH && simple == BOOL;
            }
            return isInRange(tree.value[constant], simple);
        }

        private static boolean isInRange(int v, int type) {
            return type != INT || v >= -32768 && v <= 32767;
        }

        /** What is broken if this variable becomes something. */
        private int assigned(int v) {
            boolean isRead = scope.isIn(N_PROGRAM) && isPlaceRead(scope.cell[v]);
            if (scope.section[v] == INPUT || isRead) {
                return 29;
            }
            for (int i = 0; i < depth; i++) {
                if (tree.kind[path[i]] == N_FOR && tree.value[path[i]] == scope.name[v]) {
                    return 30;
                }
            }
            return 0;
        }

        private int lookAtAssignment(int n) {
            int to = n + 1;
            int broken = assigned(tree.value[to]);
            if (broken != 0) {
                return broken;
            }
            return Expressions.fits(tree.type[tree.behind[to]], tree.type[to]) ? 0 : 31;
        }

        private int lookAtInvocation(int n) {
            int v = scope.variable(tree.value[n]);
            if (v == NONE) {
                return 20;
            }
            tree.value[n] = v;
            return scope.formOf(v) == N_BLOCK_TYPE ? 0 : 21;
        }

        /** A parameter's value becomes the input's cell. */
        private int lookAtParameter(int n) {
            int v = scope.variable(tree.value[parent()]);
            if (v == NONE || scope.formOf(v) != N_BLOCK_TYPE) {
                return 0;
            }
            int port = scope.port(scope.blockTypeOf(v), tree.value[n], INPUT);
            if (port == NONE) {
                return 32;
            }
            int cell = scope.cell[v] + (port >> 2);
            for (int i = parent() + 1; i < n; i = tree.behind[i]) {
                if (tree.value[i] == cell) {
                    return 33;
                }
            }
            tree.value[n] = cell;
            return Expressions.fits(tree.type[n + 1], port & 3) ? 0 : 31;
        }

        private int lookAtIf(int n) {
            for (int i = n + 1; i < tree.behind[n]; i = tree.behind[i]) {
                if (tree.kind[i] != N_BODY && tree.type[i] != BOOL) {
                    return 34;
                }
            }
            return 0;
        }

        private int lookAtRange(int n) {
            int low = n + 1;
            int high = tree.behind[n] - 1;
            boolean isWrong = tree.kind[low] == N_TRUTH || tree.kind[high] == N_TRUTH
                || tree.value[low] > tree.value[high];
            return isWrong ? 35 : 0;
        }

        private boolean isInLoop() {
            for (int i = 0; i < depth; i++) {
                if (tree.kind[path[i]] == N_FOR) {
                    return true;
                }
            }
            return false;
        }

        /** A loop's value becomes its variable. */
        private int lookAtFor(int n) {
            int v = scope.variable(tree.value[n]);
            if (v == NONE) {
                return 20;
            }
            if (scope.formOf(v) != N_TYPE) {
                return 21;
            }
            int type = scope.typeOf(v);
            if (type == BOOL) {
                return 22;
            }
            int broken = assigned(v);
            if (broken != 0) {
                return broken;
            }
            tree.value[n] = v;
            for (int i = n + 1; tree.kind[i] != N_BODY && i <= n + 3; i++) {
                if (tree.kind[i] == N_TRUTH || !isInRange(tree.value[i], type)) {
                    return 36;
                }
            }
            return tree.stepOf(n) == 0 || tree.timesOf(n) > MOST_TIMES ? 36 : 0;
        }

        private int lookAtRung(int n) {
            int rows = 0;
            int columns = 0;
            for (int row = n + 1; row < tree.behind[n]; row = tree.behind[row]) {
                int cells = 0;
                for (int i = row + 1; i < tree.behind[row]; i = tree.behind[i]) {
                    cells += tree.kind[i] == N_LINK ? 0 : 1;
                }
                if (rows == 0) {
                    columns = cells;
                }
                rows++;
                if (rows > SIDE || cells > SIDE || cells != columns) {
                    return 38;
                }
            }
            return 0;
        }

        private int lookAtCoil(int n) {
            if (tree.behind[n] != tree.behind[parent()]) {
                return 39;
            }
            if (tree.type[n + 1] != BOOL) {
                return 41;
            }
            return assigned(tree.value[n + 1]);
        }

        private int lookAtLink() {
            int rung = depth > 1 ? path[depth - 2] : 0;
            return tree.behind[parent()] == tree.behind[rung] ? 40 : 0;
        }
    }

    /** Rules of expressions: types are found, and numbers that are known already. */
    private static final class Expressions {
        private final Tree tree;
        private final Scope scope;

        Expressions(Tree tree, Scope scope) {
            this.tree = tree;
            this.scope = scope;
        }

        static boolean fits(int type, int wanted) {
            return type == wanted || type == INT && wanted == DINT;
        }

        int look(int n) {
            switch (tree.kind[n]) {
                case N_NUMBER:
                    tree.type[n] = tree.value[n] <= 32767 ? INT : DINT;
                    return 0;
                case N_ELEMENT:
                    return lookAtElement(n);
                case N_OUTPUT:
                    return lookAtOutput(n);
                case N_CALL:
                    return lookAtCall(n);
                case N_TWO:
                    return lookAtTwo(n);
                case N_ONE:
                    return lookAtOne(n);
                default:
                    return 0;
            }
        }

        /** A name's value becomes its variable. */
        int lookAtName(int n) {
            int v = scope.variable(tree.value[n]);
            if (v == NONE) {
                return 20;
            }
            if (scope.formOf(v) != N_TYPE) {
                return 21;
            }
            tree.value[n] = v;
            tree.type[n] = scope.typeOf(v);
            return 0;
        }

        private int lookAtElement(int n) {
            int v = scope.variable(tree.value[n]);
            if (v == NONE) {
                return 20;
            }
            if (scope.formOf(v) != N_ARRAY) {
                return 21;
            }
            if (tree.type[n + 1] == BOOL) {
                return 22;
            }
            tree.value[n] = v;
            tree.type[n] = scope.typeOf(v);
            return 0;
        }

        /** An output's value becomes its cell. */
        private int lookAtOutput(int n) {
            int v = scope.variable(tree.value[n]);
            if (v == NONE) {
                return 20;
            }
            if (scope.formOf(v) != N_BLOCK_TYPE) {
                return 21;
            }
            int port = scope.port(scope.blockTypeOf(v), tree.value[n + 1], OUTPUT);
            if (port == NONE) {
                return 23;
            }
            tree.value[n] = scope.cell[v] + (port >> 2);
            tree.type[n] = port & 3;
            return 0;
        }

        /** A call's value becomes the function. */
        private int lookAtCall(int n) {
            int function = scope.functionNamed(tree.value[n]);
            if (function == NONE) {
                return 24;
            }
            int operands = 0;
            for (int i = n + 1; i < tree.behind[n]; i = tree.behind[i]) {
                operands++;
            }
            boolean isStandard = function < STANDARD_FUNCTIONS;
            int own = function - STANDARD_FUNCTIONS;
            if (operands != (isStandard ? OPERANDS[function] : scope.inputsOf(own))) {
                return 25;
            }
            int type = isStandard ? standardType(n, function) : ownType(n, own);
            if (type == NONE) {
                return 26;
            }
            tree.value[n] = function;
            tree.type[n] = type;
            if (isStandard && hasConstants(n)) {
                tree.becomeNumber(n, called(n, function));
            }
            return 0;
        }

        /** The type of what a FUNCTION gives; NONE: an expression does not fit. */
        private int ownType(int n, int b) {
            int operand = n + 1;
            for (int v = scope.firstOf(b); v < scope.behindOf(b); v++) {
                if (scope.section[v] == INPUT) {
                    if (!fits(tree.type[operand], scope.typeOf(v))) {
                        return NONE;
                    }
                    operand = tree.behind[operand];
                }
            }
            return scope.typeOf(scope.firstOf(b));
        }

        private int standardType(int n, int function) {
            boolean areNumbers = true;
            int widest = BOOL;
            for (int i = n + 1; i < tree.behind[n]; i = tree.behind[i]) {
                areNumbers &= tree.type[i] != BOOL;
                widest = Math.max(widest, tree.type[i]);
            }
            switch (function) {
                case TO_INT:
                    return INT;
                case TO_DINT:
                    return DINT;
                case TO_BOOL:
                    return areNumbers ? BOOL : NONE;
                case SEL:
                    return chosenType(n);
                case SHL:
                case SHR:
                    return areNumbers ? tree.type[n + 1] : NONE;
                default:
                    return areNumbers ? widest : NONE;
            }
        }

        private int chosenType(int n) {
            int x = tree.behind[n + 1];
            int y = tree.behind[x];
            return tree.type[n + 1] == BOOL ? commonType(tree.type[x], tree.type[y]) : NONE;
        }

        /** BOOL of two BOOLs, the wider of two numbers, else NONE. */
        private static int commonType(int x, int y) {
            return (x == BOOL) == (y == BOOL) ? Math.max(x, y) : NONE;
        }

        private boolean hasConstants(int n) {
            for (int i = n + 1; i < tree.behind[n]; i = tree.behind[i]) {
                if (!tree.isConstant(i)) {
                    return false;
                }
            }
            return true;
        }

        /** What a standard function of constants gives. */
        private int called(int n, int function) {
            int x = tree.value[n + 1];
            int second = OPERANDS[function] > 1 ? tree.behind[n + 1] : n;
            int third = OPERANDS[function] > 2 ? tree.behind[second] : n;
            int y = tree.value[second];
            int z = tree.value[third];
            int number = Code.numberOfFunction(function, tree.type[n + 1]);
            switch (function) {
                case LIMIT:
                    return Machine.two(23, Machine.two(24, x, y), z);
                case SEL:
                    return x != 0 ? z : y;
                case TO_DINT:
                    return x;
                default:
                    return OPERANDS[function] == 1 ? Machine.one(number, x) : Machine.two(number, x, y);
            }
        }

        private int lookAtTwo(int n) {
            int x = n + 1;
            int y = tree.behind[x];
            int operator = tree.value[n];
            int common = commonType(tree.type[x], tree.type[y]);
            if (common == NONE || operator > UNEQUAL && common == BOOL) {
                return 27;
            }
            boolean compares = operator >= EQUAL && operator <= AT_LEAST;
            tree.type[n] = compares ? BOOL : common;
            boolean isFaulty = operator >= DIVIDE && tree.value[y] == 0;
            if (hasConstants(n) && !isFaulty) {
                int number = Code.numberOfTwo(operator, tree.type[n]);
                tree.becomeNumber(n, Machine.two(number, tree.value[x], tree.value[y]));
            }
            return 0;
        }

        private int lookAtOne(int n) {
            int x = n + 1;
            if (tree.value[n] == 0 && tree.type[x] == BOOL) {
                return 28;
            }
            tree.type[n] = tree.type[x];
            if (hasConstants(n)) {
                int number = Code.numberOfOne(tree.value[n], tree.type[n]);
                tree.becomeNumber(n, Machine.one(number, tree.value[x]));
            }
            return 0;
        }
    }

    /** Instructions of all units, one unit behind the other. */
    private static final class Code {
        final int[] number = new int[MOST_CODE];
        final int[] first = new int[MOST_CODE];
        final int[] second = new int[MOST_CODE];
        final int[] third = new int[MOST_CODE];
        final int[] start = new int[MOST_UNITS];
        final int[] bound = new int[MOST_UNITS];
        int size;
        int units;

        void forget() {
            size = 0;
            units = 0;
        }

        /** A new unit begins; where it starts. */
        int begin() {
            units = Math.min(units + 1, MOST_UNITS);
            start[units - 1] = size;
            return size;
        }

        /** A unit goes up to the next one, the last one up to the end. */
        int unitSize(int unit) {
            return (unit + 1 < units ? start[unit + 1] : size) - start[unit];
        }

        /** All are counted, but those that are too many are not kept. */
        int add(int newNumber, int a, int b, int c) {
            if (size < MOST_CODE) {
                number[size] = newNumber;
                first[size] = a;
                second[size] = b;
                third[size] = c;
            }
            size++;
            return size - 1;
        }

        /** A chain of GOs, each of which tells the one before it, shall lead there. */
        void aimAll(int newest, int target) {
            int i = newest;
            for (int turn = 0; turn < MOST_CODE && i >= 0 && i < MOST_CODE; turn++) {
                int older = first[i];
                first[i] = target;
                i = older;
            }
        }

        static int numberOfTwo(int operator, int type) {
            if (operator < EQUAL) {
                return operator == 0 ? 11 : operator == 1 ? 12 : 10;
            }
            if (operator <= AT_LEAST) {
                return 13 + operator - EQUAL;
            }
            return operator - ADD + (type == INT ? 0 : 5);
        }

        static int numberOfOne(int operator, int type) {
            if (operator == 0) {
                return type == INT ? 0 : 1;
            }
            return type == BOOL ? 2 : 3;
        }

        /** Of a standard function that ends with ONE or TWO, by its first operand's type. */
        static int numberOfFunction(int function, int type) {
            switch (function) {
                case ABS:
                    return type == INT ? 4 : 5;
                case MIN:
                    return 23;
                case MAX:
                    return 24;
                case SHL:
                    return type == INT ? 19 : 21;
                case SHR:
                    return type == INT ? 20 : 22;
                case TO_INT:
                    return 6;
                default:
                    return 7;
            }
        }
    }

    /** Code is written for a tree that keeps the rules. */
    private static final class Writer {
        private final Tree tree;
        private final Scope scope;
        private final Code code;
        private final int[] grid = new int[SIDE * SIDE];
        private final boolean[] isLinked = new boolean[SIDE * SIDE];
        private int rows;
        private int columns;
        private int unitStart;
        private int powers;
        private int exits;

        Writer(Tree tree, Scope scope, Code code) {
            this.tree = tree;
            this.scope = scope;
            this.code = code;
        }

        private int here() {
            return code.size - unitStart;
        }

        private void add(int number, int a) {
            code.add(number, a, 0, 0);
        }

        /** A block's code becomes the unit behind all before. */
        void unit(int b) {
            unitStart = code.begin();
            powers = scope.cells[b] - POWERS;
            exits = NONE;
            if (scope.kind[b] == N_FUNCTION) {
                beginAnew(b);
            }
            int n = scope.node[b];
            for (int i = n + 1; i < tree.behind[n]; i = tree.behind[i]) {
                if (tree.kind[i] == N_BODY) {
                    body(i);
                } else if (tree.kind[i] == N_LADDER) {
                    ladder(i);
                }
            }
        }

        private void beginAnew(int b) {
            add(I_PUSH, 0);
            add(I_STORE, 0);
            for (int v = scope.firstOf(b); v < scope.behindOf(b); v++) {
                if (scope.section[v] == INNER) {
                    add(I_PUSH, scope.initial[v]);
                    add(I_STORE, scope.cell[v]);
                }
            }
        }

        private void body(int n) {
            for (int i = n + 1; i < tree.behind[n]; i = tree.behind[i]) {
                switch (tree.kind[i]) {
                    case N_ASSIGNMENT:
                        assignment(i);
                        break;
                    case N_INVOCATION:
                        invocation(i);
                        break;
                    case N_IF:
                        ifStatement(i);
                        break;
                    case N_CASE:
                        caseStatement(i);
                        break;
                    case N_FOR:
                        forStatement(i);
                        break;
                    case N_EXIT:
                        exits = code.add(I_GO, exits, 0, 0);
                        break;
                    default:
                        add(I_LEAVE, 0);
                        break;
                }
            }
        }

        private void assignment(int n) {
            int to = n + 1;
            int from = tree.behind[to];
            if (tree.kind[to] == N_ELEMENT) {
                expression(to + 1);
                expression(from);
                element(I_PUT, tree.value[to]);
            } else {
                expression(from);
                add(I_STORE, scope.cell[tree.value[to]]);
            }
        }

        private void element(int number, int v) {
            int type = scope.typeNode[v];
            code.add(number, scope.cell[v], tree.value[type + 1], tree.value[type]);
        }

        private void invocation(int n) {
            for (int i = n + 1; i < tree.behind[n]; i = tree.behind[i]) {
                expression(i + 1);
                add(I_STORE, tree.value[i]);
            }
            int cell = scope.cell[tree.value[n]];
            int block = scope.blockTypeOf(tree.value[n]);
            if (block < STANDARD_BLOCKS) {
                code.add(I_BLOCK, block, cell, 0);
            } else {
                code.add(I_ENTER, block - STANDARD_BLOCKS, cell, 0);
            }
        }

        private void ifStatement(int n) {
            int ends = NONE;
            boolean isGuarded = false;
            for (int i = n + 1; i < tree.behind[n]; i = tree.behind[i]) {
                if (tree.kind[i] != N_BODY) {
                    expression(i);
                } else if (isGuarded) {
                    ends = guardedBody(i, tree.behind[n], ends);
                } else {
                    body(i);
                }
                isGuarded = tree.kind[i] != N_BODY;
            }
            code.aimAll(ends, here());
        }

        /** A body that is run unless 0 was left; behind it a GO, if more comes; the newest GO. */
        private int guardedBody(int n, int behindAll, int ends) {
            int unless = code.add(I_UNLESS, NONE, 0, 0);
            body(n);
            int newest = tree.behind[n] < behindAll ? code.add(I_GO, ends, 0, 0) : ends;
            code.aimAll(unless, here());
            return newest;
        }

        private void caseStatement(int n) {
            int own = tree.type[n];
            int ends = NONE;
            expression(n + 1);
            add(I_STORE, own);
            for (int i = tree.behind[n + 1]; i < tree.behind[n]; i = tree.behind[i]) {
                if (tree.kind[i] == N_BODY) {
                    body(i);
                } else {
                    ends = guardedBody(ranges(i, own), tree.behind[n], ends);
                }
            }
            code.aimAll(ends, here());
        }

        /** Whether one of a choice's ranges has what the cell holds; the node behind them. */
        private int ranges(int choice, int own) {
            int i = choice + 1;
            for (int turn = 0; turn < MOST_BYTES && tree.kind[i] == N_RANGE; turn++) {
                add(I_LOAD, own);
                add(I_PUSH, tree.value[i + 1]);
                if (tree.behind[i] == i + 2) {
                    add(I_TWO, 13);
                } else {
                    add(I_TWO, 18);
                    add(I_LOAD, own);
                    add(I_PUSH, tree.value[i + 2]);
                    add(I_TWO, 17);
                    add(I_TWO, 10);
                }
                if (turn > 0) {
                    add(I_TWO, 11);
                }
                i = tree.behind[i];
            }
            return i;
        }

        private void forStatement(int n) {
            int own = tree.type[n];
            int cell = scope.cell[tree.value[n]];
            int outerExits = exits;
            exits = NONE;
            add(I_PUSH, tree.value[n + 1]);
            add(I_STORE, cell);
            code.add(I_COUNT, own, (int) tree.timesOf(n), 0);
            int nextHere = here();
            int next = code.add(I_NEXT, own, 0, 0);
            body(tree.kind[n + 3] == N_BODY ? n + 3 : n + 4);
            add(I_LOAD, cell);
            add(I_PUSH, tree.stepOf(n));
            add(I_TWO, scope.typeOf(tree.value[n]) == INT ? 0 : 5);
            add(I_STORE, cell);
            add(I_BACK, nextHere);
            if (next < MOST_CODE) {
                code.second[next] = here();
            }
            code.aimAll(exits, here());
            exits = outerExits;
        }

        private void expression(int n) {
            switch (tree.kind[n]) {
                case N_NAME:
                case N_OUTPUT:
                    add(I_LOAD, cellOf(n));
                    break;
                case N_ELEMENT:
                    expression(n + 1);
                    element(I_TAKE, tree.value[n]);
                    break;
                case N_CALL:
                    call(n);
                    break;
                case N_TWO:
                    expression(n + 1);
                    expression(tree.behind[n + 1]);
                    add(I_TWO, Code.numberOfTwo(tree.value[n], tree.type[n]));
                    break;
                case N_ONE:
                    expression(n + 1);
                    add(I_ONE, Code.numberOfOne(tree.value[n], tree.type[n]));
                    break;
                default:
                    add(I_PUSH, tree.value[n]);
                    break;
            }
        }

        /** The cell of a simple variable or of an output. */
        private int cellOf(int n) {
            return tree.kind[n] == N_NAME ? scope.cell[tree.value[n]] : tree.value[n];
        }

        private void call(int n) {
            int function = tree.value[n];
            int operands = 0;
            for (int i = n + 1; i < tree.behind[n]; i = tree.behind[i]) {
                expression(i);
                operands++;
                if (function == LIMIT && operands > 1) {
                    add(I_TWO, operands == 2 ? 24 : 23);
                }
            }
            if (function >= STANDARD_FUNCTIONS) {
                callOwn(function - STANDARD_FUNCTIONS);
            } else if (function == SEL) {
                add(I_CHOOSE, 0);
            } else if (function != LIMIT && function != TO_DINT) {
                add(operands == 1 ? I_ONE : I_TWO, Code.numberOfFunction(function, tree.type[n + 1]));
            }
        }

        private void callOwn(int b) {
            for (int v = scope.behindOf(b) - 1; v >= scope.firstOf(b); v--) {
                if (scope.section[v] == INPUT) {
                    code.add(I_WRITE, b, scope.cell[v], 0);
                }
            }
            code.add(I_CALL, b, 0, 0);
            code.add(I_READ, b, 0, 0);
        }

        private void ladder(int n) {
            for (int rung = n + 1; rung < tree.behind[n]; rung = tree.behind[rung]) {
                layOut(rung);
                for (int line = 1; line <= columns; line++) {
                    for (int row = 0; row < rows; row++) {
                        boolean isLed = leastRow(row, line) != row;
                        boolean isCoil = line == columns && tree.kind[cellAt(row, line)] == N_COIL;
                        if (!isLed && !isCoil) {
                            group(row, line);
                        }
                    }
                }
                for (int row = 0; row < rows; row++) {
                    if (tree.kind[cellAt(row, columns)] == N_COIL) {
                        coil(cellAt(row, columns), row);
                    }
                }
            }
        }

        /** Where a rung's cells and links are. */
        private void layOut(int rung) {
            rows = 0;
            columns = 0;
            for (int row = rung + 1; row < tree.behind[rung] && rows < SIDE; row = tree.behind[row]) {
                columns = 0;
                for (int i = row + 1; i < tree.behind[row]; i = tree.behind[i]) {
                    if (tree.kind[i] != N_LINK && columns < SIDE) {
                        grid[rows * SIDE + columns] = i;
                        isLinked[rows * SIDE + columns] = false;
                        columns++;
                    } else if (columns > 0) {
                        isLinked[rows * SIDE + columns - 1] = true;
                    }
                }
                rows++;
            }
        }

        /** The cell to the left of a line. */
        private int cellAt(int row, int line) {
            return grid[row * SIDE + line - 1];
        }

        /** The least row of the group in which a row is at a line. */
        private int leastRow(int row, int line) {
            int least = row;
            while (least > 0 && isLinked[(least - 1) * SIDE + line - 1]) {
                least--;
            }
            return least;
        }

        private int powerOf(int row, int line) {
            return powers + SIDE * (line - 1) + leastRow(row, line);
        }

        private void group(int least, int line) {
            int fed = 0;
            for (int row = least; row < rows && leastRow(row, line) == least; row++) {
                int n = cellAt(row, line);
                if (tree.kind[n] != N_GAP) {
                    if (line == 1) {
                        add(I_PUSH, 1);
                    } else {
                        add(I_LOAD, powerOf(row, line - 1));
                    }
                    if (tree.kind[n] == N_CONTACT) {
                        contact(n);
                    }
                    if (fed > 0) {
                        add(I_TWO, 11);
                    }
                    fed++;
                }
            }
            if (fed == 0) {
                add(I_PUSH, 0);
            }
            add(I_STORE, powerOf(least, line));
        }

        private void contact(int n) {
            int way = tree.value[n];
            int cell = cellOf(n + 1);
            int own = tree.type[n];
            if (way == 3) {
                add(I_LOAD, own);
            }
            add(I_LOAD, cell);
            if (way == 2) {
                add(I_LOAD, own);
            }
            if (way != 0) {
                add(I_ONE, 2);
            }
            add(I_TWO, 10);
            if (way >= 2) {
                add(I_TWO, 10);
                add(I_LOAD, cell);
                add(I_STORE, own);
            }
        }

        private void coil(int n, int row) {
            int way = tree.value[n];
            int cell = cellOf(n + 1);
            if (way >= 2) {
                add(I_LOAD, cell);
            }
            if (columns == 1) {
                add(I_PUSH, 1);
            } else {
                add(I_LOAD, powerOf(row, columns - 1));
            }
            if (way == 1 || way == 3) {
                add(I_ONE, 2);
            }
            if (way >= 2) {
                add(I_TWO, way == 2 ? 11 : 10);
            }
            add(I_STORE, cell);
        }
    }

    /** How much a unit lays on the stack, and how many steps it takes at the most. */
    private static final class Measure {
        // Above each bound that is allowed; what is above it becomes it, so
        // that a million times it still is a long.
        private static final long ENOUGH = 1000000000000L;

        private final Code code;
        private final long[] steps = new long[MOST_CODE + 1];
        // By loop, from the outermost on, the unit being 0: steps before its
        // NEXT, where it ends, how often it is gone through, and the most steps
        // from its NEXT to a GO behind it, and to a LEAVE.
        private final long[] before = new long[MOST_OPEN + 2];
        private final int[] behind = new int[MOST_OPEN + 2];
        private final int[] times = new int[MOST_OPEN + 2];
        private final long[] left = new long[MOST_OPEN + 2];
        private final long[] ended = new long[MOST_OPEN + 2];
        private int loop;

        Measure(Code code) {
            this.code = code;
        }

        int faultOf(int unit) {
            if (laysTooMuch(unit)) {
                return 51;
            }
            long bound = boundOf(unit);
            if (bound > MOST_BOUND) {
                return 52;
            }
            code.bound[unit] = (int) bound;
            return 0;
        }

        private boolean laysTooMuch(int unit) {
            int from = code.start[unit];
            int size = code.unitSize(unit);
            int laid = 0;
            Arrays.fill(steps, 0, size + 1, NONE);
            steps[0] = 0;
            for (int i = 0; i < size; i++) {
                int number = code.number[from + i];
                laid += LAID[number];
                if (steps[i] == 0) {
                    if (laid > MOST_STACK) {
                        return true;
                    }
                    if (goesOn(number)) {
                        steps[i + 1] = 0;
                    }
                    if (number == I_GO || number == I_UNLESS) {
                        come(code.first[from + i], 0);
                    } else if (number == I_NEXT) {
                        come(code.second[from + i], 0);
                    }
                }
            }
            return false;
        }

        private static boolean goesOn(int number) {
            return number != I_GO && number != I_BACK && number != I_LEAVE;
        }

        /** An instruction is come to behind so many steps. */
        private void come(int i, long behindSteps) {
            if (i >= 0 && i <= MOST_CODE) {
                steps[i] = Math.max(steps[i], Math.min(behindSteps, ENOUGH));
            }
        }

        private long boundOf(int unit) {
            int from = code.start[unit];
            int size = code.unitSize(unit);
            Arrays.fill(steps, 0, size + 1, NONE);
            steps[0] = 0;
            loop = 0;
            ended[0] = NONE;
            for (int i = 0; i < size; i++) {
                int number = code.number[from + i];
                if (number == I_NEXT) {
                    beginLoop(i, code.second[from + i], code.second[Math.max(0, from + i - 1)]);
                } else if (number == I_BACK) {
                    endLoop(steps[i]);
                } else if (steps[i] != NONE) {
                    follow(i, number, code.first[from + i]);
                }
            }
            return Math.max(steps[size], ended[0]);
        }

        private void follow(int i, int number, int told) {
            long now = steps[i] + 1;
            if (number == I_LEAVE) {
                ended[loop] = Math.max(ended[loop], now);
            } else if (number == I_GO && loop > 0 && told == behind[loop]) {
                left[loop] = Math.max(left[loop], now);
            } else if (number == I_GO) {
                come(told, now);
            } else {
                if (number == I_UNLESS) {
                    come(told, now);
                }
                boolean begins = number == I_ENTER || number == I_CALL;
                come(i + 1, begins ? now + code.bound[told] : now);
            }
        }

        /** Within a loop steps are counted from its NEXT on. */
        private void beginLoop(int i, int newBehind, int newTimes) {
            loop = Math.min(loop + 1, MOST_OPEN + 1);
            before[loop] = steps[i];
            behind[loop] = newBehind;
            times[loop] = newTimes;
            left[loop] = NONE;
            ended[loop] = NONE;
            if (steps[i] != NONE) {
                come(i + 1, 1);
            }
        }

        private void endLoop(long atBack) {
            int inner = loop;
            loop = Math.max(0, loop - 1);
            if (before[inner] == NONE) {
                return;
            }
            if (times[inner] == 0) {
                come(behind[inner], before[inner] + 1);
                return;
            }
            long last = before[inner];
            if (atBack != NONE) {
                last += (times[inner] - 1) * (atBack + 1);
                come(behind[inner], last + atBack + 2);
            }
            if (left[inner] != NONE) {
                come(behind[inner], last + left[inner]);
            }
            if (ended[inner] != NONE) {
                ended[loop] = Math.max(ended[loop], Math.min(last + ended[inner], ENOUGH));
            }
        }
    }

    /** The machine with a stack: it has all cells, and runs the code. */
    private static final class Machine {
        final int[] cells = new int[MOST_CELLS];
        int now;
        int steps;
        private final Scope scope;
        private final Code code;
        private final int[] stack = new int[MOST_UNITS * MOST_STACK];
        private final int[] unitAt = new int[MOST_UNITS + 1];
        private final int[] nextAt = new int[MOST_UNITS + 1];
        private final int[] baseAt = new int[MOST_UNITS + 1];
        private int laid;
        private int depth;
        private int unit;
        private int next;
        private int base;

        Machine(Scope scope, Code code) {
            this.scope = scope;
            this.code = code;
        }

        /** All cells become what their constants say. */
        void prepare() {
            now = 0;
            steps = 0;
            Arrays.fill(cells, 0);
            for (int b = 0; b < scope.blocks; b++) {
                if (scope.kind[b] != N_FUNCTION_BLOCK) {
                    prepareBlock(b, scope.base[b], 0);
                }
            }
        }

        /** Blocks have only instances of earlier ones, so they go no deeper than there are units. */
        private void prepareBlock(int b, int from, int level) {
            if (level > MOST_UNITS || scope.cells[b] == 0) {
                return;
            }
            for (int v = scope.firstOf(b); v < scope.behindOf(b); v++) {
                int at = from + scope.cell[v];
                if (scope.formOf(v) != N_BLOCK_TYPE) {
                    fill(at, scope.sizeOf(scope.typeNode[v]), scope.initial[v]);
                } else if (scope.blockTypeOf(v) >= STANDARD_BLOCKS) {
                    prepareBlock(scope.blockTypeOf(v) - STANDARD_BLOCKS, at, level + 1);
                }
            }
        }

        private void fill(int at, int size, int v) {
            for (int i = 0; i < size; i++) {
                store(at + i, v);
            }
        }

        private int load(int cell) {
            return cell >= 0 && cell < MOST_CELLS ? cells[cell] : 0;
        }

        private void store(int cell, int v) {
            if (cell >= 0 && cell < MOST_CELLS) {
                cells[cell] = v;
            }
        }

        private void push(int v) {
            if (laid < stack.length) {
                stack[laid] = v;
                laid++;
            }
        }

        private int pop() {
            if (laid > 0) {
                laid--;
            }
            return stack[laid];
        }

        /** A run of the last unit: how many steps, or the fault that ends it. */
        int go(int ticks) {
            now += ticks;
            steps = 0;
            laid = 0;
            depth = 0;
            unit = code.units - 1;
            next = 0;
            base = 0;
            // Each turn is a step or the end of a unit that a step began.
            for (int turn = 0; turn <= 2 * MOST_RUN + 1; turn++) {
                if (next >= code.unitSize(unit)) {
                    if (depth == 0) {
                        return steps;
                    }
                    leave();
                } else {
                    int fault = step(code.start[unit] + next);
                    if (fault != 0) {
                        return fault;
                    }
                }
            }
            return steps;
        }

        private void enter(int newUnit, int newBase) {
            if (depth < MOST_UNITS) {
                unitAt[depth] = unit;
                nextAt[depth] = next;
                baseAt[depth] = base;
                depth++;
                unit = newUnit;
                next = 0;
                base = newBase;
            }
        }

        private void leave() {
            if (depth > 0) {
                depth--;
                unit = unitAt[depth];
                next = nextAt[depth];
                base = baseAt[depth];
            }
        }

        /** One instruction: 0, or the fault that it has. */
        private int step(int i) {
            int a = code.first[i];
            int b = code.second[i];
            steps++;
            next++;
            switch (code.number[i]) {
                case I_PUSH:
                    push(a);
                    return 0;
                case I_LOAD:
                    push(load(base + a));
                    return 0;
                case I_STORE:
                    store(base + a, pop());
                    return 0;
                case I_TAKE:
                    return takeElement(a, b, code.third[i]);
                case I_PUT:
                    return putElement(a, b, code.third[i]);
                case I_READ:
                    push(load(scope.base[a] + b));
                    return 0;
                case I_WRITE:
                    store(scope.base[a] + b, pop());
                    return 0;
                case I_TWO:
                    return operate(a);
                case I_ONE:
                    push(one(a, pop()));
                    return 0;
                case I_CHOOSE:
                    choose();
                    return 0;
                case I_BLOCK:
                    block(a, base + b);
                    return 0;
                default:
                    move(code.number[i], a, b);
                    return 0;
            }
        }

        private static boolean isElement(int i, int low, int elements) {
            long far = (long) i - low;
            return far >= 0 && far < elements;
        }

        private int takeElement(int cell, int low, int elements) {
            int i = pop();
            if (!isElement(i, low, elements)) {
                return INDEX;
            }
            push(load(base + cell + (i - low)));
            return 0;
        }

        private int putElement(int cell, int low, int elements) {
            int v = pop();
            int i = pop();
            if (!isElement(i, low, elements)) {
                return INDEX;
            }
            store(base + cell + (i - low), v);
            return 0;
        }

        private int operate(int number) {
            int y = pop();
            int x = pop();
            boolean divides = number == 3 || number == 4 || number == 8 || number == 9;
            if (divides && y == 0) {
                return ZERO;
            }
            push(two(number, x, y));
            return 0;
        }

        private void choose() {
            int y = pop();
            int x = pop();
            push(pop() != 0 ? y : x);
        }

        /** Instructions that lead elsewhere, or count how often. */
        private void move(int number, int a, int b) {
            switch (number) {
                case I_GO:
                case I_BACK:
                    next = a;
                    break;
                case I_UNLESS:
                    if (pop() == 0) {
                        next = a;
                    }
                    break;
                case I_COUNT:
                    store(base + a, b);
                    break;
                case I_NEXT:
                    if (load(base + a) == 0) {
                        next = b;
                    } else {
                        store(base + a, load(base + a) - 1);
                    }
                    break;
                case I_ENTER:
                    enter(a, base + b);
                    break;
                case I_CALL:
                    enter(a, scope.base[a]);
                    break;
                default:
                    next = code.unitSize(unit);
                    break;
            }
        }

        /** What TWO leaves; of a division by 0, which is a fault, 0. */
        static int two(int number, int x, int y) {
            switch (number) {
                case 0:
                    return (short) (x + y);
                case 1:
                    return (short) (x - y);
                case 2:
                    return (short) (x * y);
                case 3:
                    return y == 0 ? 0 : (short) (x / y);
                case 4:
                    return y == 0 ? 0 : (short) (x % y);
                case 5:
                    return x + y;
                case 6:
                    return x - y;
                case 7:
                    return x * y;
                case 8:
                    return y == 0 ? 0 : x / y;
                case 9:
                    return y == 0 ? 0 : x % y;
                case 10:
                    return x & y;
                case 11:
                    return x | y;
                case 12:
                    return x ^ y;
                default:
                    return number < 19 ? compared(number, x, y) : shifted(number, x, y);
            }
        }

        private static int compared(int number, int x, int y) {
            boolean holds;
            switch (number) {
                case 13:
                    holds = x == y;
                    break;
                case 14:
                    holds = x != y;
                    break;
                case 15:
                    holds = x < y;
                    break;
                case 16:
                    holds = x > y;
                    break;
                case 17:
                    holds = x <= y;
                    break;
                default:
                    holds = x >= y;
                    break;
            }
            return holds ? 1 : 0;
        }

        private static int shifted(int number, int x, int y) {
            if (number >= 23) {
                return number == 23 ? Math.min(x, y) : Math.max(x, y);
            }
            if (y < 0 || y > (number < 21 ? 15 : 31)) {
                return 0;
            }
            switch (number) {
                case 19:
                    return (short) (x << y);
                case 20:
                    return (short) ((x & 65535) >>> y);
                case 21:
                    return x << y;
                default:
                    return x >>> y;
            }
        }

        /** What ONE leaves. */
        static int one(int number, int x) {
            switch (number) {
                case 0:
                    return (short) (-x);
                case 1:
                    return -x;
                case 2:
                    return x == 0 ? 1 : 0;
                case 3:
                    return ~x;
                case 4:
                    return (short) (x < 0 ? -x : x);
                case 5:
                    return x < 0 ? -x : x;
                case 6:
                    return (short) x;
                default:
                    return x == 0 ? 0 : 1;
            }
        }

        private boolean isOn(int cell) {
            return load(cell) != 0;
        }

        private void put(int cell, boolean on) {
            store(cell, on ? 1 : 0);
        }

        /** A standard block whose cells begin at c. */
        private void block(int number, int c) {
            if (number <= TP) {
                timer(number, c);
            } else if (number <= CTD) {
                counter(number, c);
            } else if (number <= F_TRIG) {
                boolean isOn = isOn(c);
                boolean wasOn = isOn(c + 2);
                put(c + 1, number == R_TRIG ? isOn && !wasOn : !isOn && wasOn);
                put(c + 2, isOn);
            } else if (number == SR) {
                put(c + 2, isOn(c) || !isOn(c + 1) && isOn(c + 2));
            } else {
                put(c + 2, !isOn(c + 1) && (isOn(c) || isOn(c + 2)));
            }
        }

        private void timer(int number, int c) {
            boolean isOn = isOn(c);
            boolean wasOn = isOn(c + 4);
            int wanted = Math.max(load(c + 1), 0);
            int longer = (int) Math.min(wanted, load(c + 3) + ((long) now - load(c + 5)));
            if (number == TON) {
                timeOn(c, isOn, wasOn ? longer : 0, wanted);
            } else if (number == TOF) {
                timeOff(c, isOn, wasOn, longer, wanted);
            } else {
                pulse(c, isOn, wasOn, longer, wanted);
            }
            put(c + 4, isOn);
            store(c + 5, now);
        }

        private void timeOn(int c, boolean isOn, int elapsed, int wanted) {
            store(c + 3, isOn ? elapsed : 0);
            put(c + 2, isOn && elapsed >= wanted);
        }

        private void timeOff(int c, boolean isOn, boolean wasOn, int longer, int wanted) {
            if (isOn) {
                put(c + 2, true);
                store(c + 3, 0);
            } else if (wasOn) {
                store(c + 3, 0);
                put(c + 2, wanted > 0);
            } else if (isOn(c + 2)) {
                store(c + 3, longer);
                put(c + 2, longer < wanted);
            }
        }

        private void pulse(int c, boolean isOn, boolean wasOn, int longer, int wanted) {
            if (isOn(c + 2)) {
                store(c + 3, longer);
                if (longer >= wanted) {
                    store(c + 2, 0);
                }
            }
            if (!isOn(c + 2)) {
                if (isOn && !wasOn) {
                    store(c + 3, 0);
                    put(c + 2, wanted > 0);
                } else if (!isOn) {
                    store(c + 3, 0);
                }
            }
        }

        private void counter(int number, int c) {
            boolean isOn = isOn(c);
            boolean rises = isOn && !isOn(c + 5);
            int wanted = load(c + 2);
            int value = load(c + 4);
            if (isOn(c + 1)) {
                value = number == CTU ? 0 : wanted;
            } else if (rises && number == CTU && value < 32767) {
                value++;
            } else if (rises && number == CTD && value > -32768) {
                value--;
            }
            store(c + 4, value);
            put(c + 3, number == CTU ? value >= wanted : value <= 0);
            put(c + 5, isOn);
        }
    }
}
