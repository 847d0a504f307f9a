/** Each sentence of 'TOKENS' that names an edge, with a test of its own. */
public final class TokenEdgeTests {
    private static final String LEAST = "PROGRAM p END_PROGRAM";
    private static final String WORDS = "FUNCTION END_FUNCTION FUNCTION_BLOCK END_FUNCTION_BLOCK PROGRAM END_PROGRAM VAR VAR_INPUT VAR_OUTPUT "
        + "END_VAR AT BOOL INT DINT ARRAY OF IF THEN ELSIF ELSE END_IF CASE END_CASE FOR TO BY DO END_FOR EXIT RETURN OR XOR AND MOD NOT TRUE "
        + "FALSE LADDER END_LADDER RUNG END_RUNG";
    private static final String SIGNS = "()[],;:.+-*/=<>&|";

    public static void main(String[] args) {
        fullText();
        blanks();
        remarks();
        openRemarks();
        partedTokens();
        longestTokens();
        names();
        longNames();
        manyNames();
        sizesOfLetters();
        words();
        numbers();
        bases();
        missingDigits();
        behindNumbers();
        tooGreatNumbers();
        times();
        places();
        badPlaces();
        tooGreatPlaces();
        signs();
        otherBytes();
        Checks.finish("TokenEdgeTests");
    }

    private static void fullText() {
        Checks.says("THE TEXT has up to 8,192 bytes.");
        Checks.fine(LEAST + " ".repeat(8192 - 21));
        Checks.fine(" ".repeat(8192 - 21) + LEAST);
        Checks.fine("PROGRAM p" + ";".repeat(8192 - 21) + " END_PROGRAM");
        Checks.faulty(1, LEAST + " ".repeat(8192 - 22) + "\u00b6!");
        Checks.faulty(6, LEAST + " ".repeat(8192 - 22) + "\u00b6;");
        Checks.faulty(6, "PROGRAM p" + ";".repeat(8192 - 9) + "\u00b6");
        Checks.faulty(10, "\u00b6");
        // as many tokens as bytes
        Checks.faulty(6, "\u00b6" + ";".repeat(8192));
        Checks.faulty(6, "PROGRAM p \u00b6" + ",".repeat(8192 - 10));
    }

    private static boolean isNameByte(int b) {
        return b >= 'A' && b <= 'Z' || b >= 'a' && b <= 'z' || b >= '0' && b <= '9' || b == '_';
    }

    private static boolean isBlank(int b) {
        return b == 9 || b == 10 || b == 13 || b == 32;
    }

    /** The least PROGRAM, where this byte stands for the blank in it. */
    private static void between(int b) {
        String behind = (char) b + "p END_PROGRAM";
        if (isBlank(b)) {
            Checks.fine("PROGRAM" + behind);
        } else if (isNameByte(b)) {
            Checks.faulty(6, "\u00b6PROGRAM" + behind);
        } else if (b == '%') {
            Checks.faulty(5, "PROGRAM\u00b6" + behind);
        } else if (SIGNS.indexOf(b) >= 0) {
            Checks.faulty(6, "PROGRAM\u00b6" + behind);
        }
    }

    private static void blanks() {
        Checks.says("BLANKS are 9, 10, 13, 32,");
        for (int b = 0; b < 256; b++) {
            between(b);
        }
        for (int b : new int[] {8, 11, 12, 14, 31, 33, 0, 160}) {
            Checks.due("no blank: " + b, isBlank(b), false);
            CodeMaker x = new CodeMaker();
            Checks.feed(x, "PROGRAM" + (char) b + "p END_PROGRAM");
            Checks.due("byte " + b, x.make(), 1);
            Checks.due("its place", x.count(1), 7);
        }
        Checks.fine("\t\n\r PROGRAM\t\n\r p\t\n\r END_PROGRAM\t\n\r ");
    }

    private static void remarks() {
        Checks.says("and all from (* to the next *) behind these two bytes;");
        Checks.fine("PROGRAM(**)p END_PROGRAM");
        Checks.fine("PROGRAM(*)*)p END_PROGRAM");
        Checks.fine("PROGRAM(***)p END_PROGRAM");
        Checks.fine("PROGRAM(* (* *)p END_PROGRAM(* ! \0 \u00ff ( * ) 5x *)");
        Checks.fine("(**)(**)PROGRAM(**)(**)p END_PROGRAM");
        Checks.faulty(6, "PROGRAM(* (* *)p \u00b6*) END_PROGRAM");
        Checks.faulty(6, "PROGRAM p \u00b6( * *) END_PROGRAM");
        // the * of ( * is no second byte of the end
        Checks.faulty(2, "PROGRAM\u00b6(*)p END_PROGRAM");
        Checks.fine("(*" + "*".repeat(8192 - 21 - 4) + "*)" + LEAST);
        Checks.fine(LEAST + "(*" + " ".repeat(8192 - 21 - 4) + "*)");
    }

    private static void openRemarks() {
        Checks.says("without that FAULT 2 where it begins.");
        Checks.faulty(2, "\u00b6(*");
        Checks.faulty(2, "\u00b6(*)");
        Checks.faulty(2, "\u00b6(* *");
        Checks.faulty(2, LEAST + "\u00b6(*");
        Checks.faulty(2, LEAST + " (* *)\u00b6(* * )");
        Checks.faulty(2, LEAST + " ".repeat(8192 - 23) + "\u00b6(*");
        Checks.faulty(2, "PROGRAM\u00b6(* p END_PROGRAM");
        // a ( as the text's last byte is a sign
        Checks.faulty(6, LEAST + " \u00b6(");
    }

    private static void partedTokens() {
        Checks.says("They part tokens, and are left out.");
        Checks.faulty(6, "PROGRAM p END \u00b6_PROGRAM");
        Checks.faulty(6, "PROGRAM p END(**)\u00b6_PROGRAM");
        Checks.faulty(6, "PROGRAM p VAR x : INT := 1(**)\u00b62; END_VAR END_PROGRAM");
        Checks.faulty(6, "PROGRAM p VAR x : INT \u00b6: = 1; END_VAR END_PROGRAM");
        Checks.faulty(6, Checks.program("a : ARRAY [1 \u00b6. . 2] OF INT;", ""));
        Checks.faulty(6, Checks.program("b : BOOL;", "b := 1 <(**)\u00b6= 2;"));
        Checks.fine("PROGRAM\np\rVAR\tx:INT:=-\n5;END_VAR x:=x+(**)1;END_PROGRAM");
    }

    private static void longestTokens() {
        Checks.says("Otherwise a token begins, which takes as many bytes as it can:");
        Checks.fine("PROGRAM END_PROGRAM1 END_PROGRAM");
        Checks.fine("PROGRAM p VAR a:ARRAY[1..2]OF INT;b:BOOL;END_VAR b:=a[1]<=a[2];b:=1<>2;b:=1>=2;END_PROGRAM");
        Checks.faulty(6, "PROGRAM p VAR b:BOOL;END_VAR b:=1<=\u00b6>2;END_PROGRAM");
        Checks.faulty(6, "PROGRAM p VAR b:BOOL;END_VAR b:=1=\u00b6>2;END_PROGRAM");
        Checks.faulty(6, "PROGRAM p VAR b:BOOL;END_VAR b:=1>\u00b6<2;END_PROGRAM");
        Checks.faulty(6, "PROGRAM p VAR b:BOOL\u00b6::=TRUE;END_VAR END_PROGRAM");
        Checks.faulty(6, "PROGRAM p VAR b\u00b6:=:BOOL;END_VAR END_PROGRAM");
    }

    private static void names() {
        Checks.says("NAME: a letter or _, and letters, digits, _;");
        for (int b = 0; b < 256; b++) {
            if (isNameByte(b) && (b < '0' || b > '9')) {
                Checks.fine("PROGRAM " + (char) b + " END_PROGRAM");
            }
            if (isNameByte(b)) {
                Checks.fine("PROGRAM _" + (char) b + " END_PROGRAM");
            }
        }
        for (char c = '0'; c <= '9'; c++) {
            Checks.faulty(6, "PROGRAM \u00b6" + c + " END_PROGRAM");
        }
    }

    private static void longNames() {
        Checks.says("more than 32 bytes: FAULT 3 where it begins.");
        String[] most = {"_".repeat(32), "a".repeat(32), "Z1".repeat(16), "END_FUNCTION_BLOCKEND_FUNCTION_B"};
        for (String name : most) {
            Checks.fine("PROGRAM " + name + " END_PROGRAM");
            Checks.fine("PROGRAM p VAR " + name + ":INT;END_VAR " + name + ":=1;END_PROGRAM");
            Checks.faulty(3, "PROGRAM \u00b6" + name + "1 END_PROGRAM");
            Checks.faulty(3, "PROGRAM p \u00b6" + name + "_;END_PROGRAM");
            Checks.faulty(3, "\u00b6" + name + "a");
        }
        Checks.faulty(3, "\u00b6" + "x".repeat(8192));
        // names are told apart by all of their 32 bytes
        Checks.fine("PROGRAM p VAR " + "a".repeat(31) + "b, " + "a".repeat(31) + "c, " + "a".repeat(31) + ", b" + "a".repeat(31) + " : INT; END_VAR END_PROGRAM");
        Checks.faulty(12, "PROGRAM p VAR " + "a".repeat(31) + "b, \u00b6" + "A".repeat(31) + "B : INT; END_VAR END_PROGRAM");
    }

    private static void manyNames() {
        Checks.says("(Below, name is one that is none of these.)");
        String firsts = "ABCDEFGHIJKLMNOPQRSTUVWXYZ_";
        String seconds = firsts + "0123456789";
        String known = " OF IF OR TO BY DO AT TP SR RS ";
        StringBuilder names = new StringBuilder("P");
        int many = 1;
        for (char first : firsts.toCharArray()) {
            for (char second : seconds.toCharArray()) {
                if (known.indexOf(" " + first + second + " ") < 0) {
                    names.append(',').append(first).append(second);
                    many++;
                }
            }
        }
        for (char first : firsts.toCharArray()) {
            for (char third : "AZ_059".toCharArray()) {
                names.append(',').append(first).append('Q').append(third);
                many++;
            }
        }
        // all are told apart, and the first and the last are still known behind them
        CodeMaker x = Checks.made("PROGRAM program1 VAR " + names + ":INT;END_VAR p:=_q9;_Q9:=P;END_PROGRAM");
        Checks.due("cells", x.count(4), 960 + many);
        Checks.due("the last name", x.told(0, 0, 1), 960 + many - 1);
        Checks.due("the first name", x.told(0, 1, 1), 960);
        Checks.due("names", many, 1 + 27 * 37 - 10 + 27 * 6);
        // names of four bytes that are alike but for one of these
        for (int place = 0; place < 4; place++) {
            StringBuilder alike = new StringBuilder("P");
            for (int i = 0; i < 40; i++) {
                String rest = "" + seconds.charAt(i % 37) + seconds.charAt(7 * i % 37) + seconds.charAt(i / 37);
                for (char one : firsts.toCharArray()) {
                    String name = rest.substring(0, place) + one + rest.substring(place);
                    alike.append(',').append(Character.isDigit(name.charAt(0)) ? "_" : "").append(name);
                }
            }
            Checks.due("cells", Checks.made("PROGRAM program1 VAR " + alike + ":INT;END_VAR END_PROGRAM").count(4), 961 + 40 * 27);
        }
        // names that are beginnings of others, the longer ones first, and the other way round
        for (boolean isShortFirst : new boolean[] {false, true}) {
            StringBuilder beginnings = new StringBuilder("P");
            for (int i = 0; i < 12; i++) {
                for (int size = 32; size > 3; size--) {
                    String whole = ("X" + (char) ('A' + i) + "Q7_KZ3WMD_8VX0PLR5TB2YHN4GC6FJS9EAU").substring(0, 32);
                    beginnings.append(',').append(whole, 0, isShortFirst ? 36 - size : size);
                }
            }
            Checks.due("cells", Checks.made("PROGRAM program1 VAR " + beginnings + ":INT;END_VAR END_PROGRAM").count(4), 961 + 12 * 29);
        }
    }

    private static void sizesOfLetters() {
        Checks.says("Letters are alike in both sizes, here, in numbers and in places:");
        for (char c = 'a'; c <= 'z'; c++) {
            String great = String.valueOf((char) (c - 32));
            Checks.faulty(12, "PROGRAM p1 VAR " + c + ", \u00b6" + great + " : INT; END_VAR END_PROGRAM");
        }
        Checks.fine("pRoGrAm p vAr X : inT; y aT %qW5 : Int; eNd_vAr IF x = 16#aF tHeN X := mIn(Y, t#1Ms); end_IF; eNd_PrOgRaM");
        number("16#abcdef", 0xABCDEF);
        number("16#ABCDEF", 0xABCDEF);
        number("T#1Ms", 1);
        number("t#1mS", 1);
        Checks.faulty(14, Checks.program("a AT %IX1 : BOOL; b AT \u00b6%ix1 : BOOL;", ""));
        // bytes next to letters are none, and _ is like no other byte
        Checks.fine("PROGRAM p VAR _ : INT; END_VAR _ := 1; END_PROGRAM");
        for (char c : new char[] {'@', '`', '{', '^', '\u00c1', '\u00e1'}) {
            Checks.faulty(1, "PROGRAM \u00b6" + c + " END_PROGRAM");
        }
    }

    private static void words() {
        Checks.says("These names are WORDS:");
        for (String word : WORDS.split(" ")) {
            Checks.faulty(6, "PROGRAM \u00b6" + word + " END_PROGRAM");
            Checks.faulty(6, "PROGRAM \u00b6" + word.toLowerCase() + " END_PROGRAM");
            Checks.fine("PROGRAM " + word + "_ END_PROGRAM");
            Checks.fine("PROGRAM _" + word + " END_PROGRAM");
            Checks.fine("PROGRAM " + word.substring(0, word.length() - 1) + " END_PROGRAM");
        }
    }

    private static void number(String written, int means) {
        CodeMaker x = Checks.made("PROGRAM p VAR d : DINT; END_VAR d := " + written + "; END_PROGRAM");
        Checks.due("PUSH for " + written, x.told(0, 0, 0), 0);
        Checks.due(written + " means", x.told(0, 0, 1), means);
    }

    private static void bad(String written) {
        Checks.faulty(4, "PROGRAM p VAR d : DINT; END_VAR d := \u00b6" + written + "; END_PROGRAM");
    }

    private static void numbers() {
        Checks.says("NUMBER: digits; or digits that mean 16 or 2, #, and digits of that (0 - 9, A - F in both sizes; 0, 1);");
        number("0", 0);
        number("0123456789", 123456789);
        number("16#0", 0);
        number("16#01234567", 0x1234567);
        number("16#89", 0x89);
        number("2#0", 0);
        number("2#10", 2);
        number("0000000000000016#f", 15);
        number("0002#11", 3);
        number("0".repeat(8000) + "5", 5);
        number("0".repeat(4000) + "16#" + "0".repeat(4000) + "a", 10);
    }

    private static void bases() {
        Checks.says("its digits before # mean neither 16 nor 2;");
        // the last ones are 16 or 2 in their lowest 32 or 64 bits
        for (String base : new String[] {"0", "1", "3", "8", "10", "15", "17", "20", "160", "4294967312", "4294967298", "65552", "272",
            "18446744073709551632", "18446744073709551618"}) {
            bad(base + "#1");
            bad(base + "#");
        }
    }

    private static void missingDigits() {
        Checks.says("behind # there is none of these digits, behind T# no digits, or behind these none of these four;");
        for (String written : new String[] {"16#", "16#G", "16#g", "16#_", "16#/", "16#:", "16#@", "16#`", "16# 1", "16#-1", "16##1", "2#", "2#2", "2#9",
            "2#A", "2#/", "2# 1", "T#", "t#", "T#ms", "T# 5ms", "T#-5ms", "T#_5ms", "T##5s", "T#A", "T#5", "T#5 ms", "T#5d", "T#5_", "T#5A", "T#5#",
            "T#16#5s", "T#5.5s"}) {
            bad(written);
        }
    }

    private static void behindNumbers() {
        Checks.says("a letter, digit or _ comes right behind it;");
        for (String written : new String[] {"1a", "1Z", "1_", "1e5", "16#1G", "16#1z", "16#1_", "2#12", "2#1a", "2#1_", "2#19", "T#5msx", "T#5ms5", "T#5ms_",
            "T#5sx", "T#5s5", "T#5s_", "T#5mx", "T#5m5", "T#5m_", "T#5hx", "T#5h5", "T#5h_", "T#5mss", "T#5h5m", "T#5sm"}) {
            bad(written);
        }
        // what is no letter, digit or _ may come there
        Checks.fine("PROGRAM p VAR a:ARRAY[1..16#2]OF INT;END_VAR a[1]:=T#5ms+2#1*(T#5s)-a[1];END_PROGRAM");
        Checks.faulty(1, "PROGRAM p VAR d : DINT; END_VAR d := T#5s\u00b6#; END_PROGRAM");
        Checks.faulty(1, "PROGRAM p VAR d : DINT; END_VAR d := 16#5\u00b6#; END_PROGRAM");
    }

    private static void tooGreatNumbers() {
        Checks.says("or it is above 2,147,483,647.");
        number("2147483647", Integer.MAX_VALUE);
        number("16#7fffffff", Integer.MAX_VALUE);
        number("2#" + "1".repeat(31), Integer.MAX_VALUE);
        number("T#2147483647ms", Integer.MAX_VALUE);
        // the first of each is one too great; then 2^32 and 2^64 and a little more: these wrap around
        for (String written : new String[] {"2147483648", "4294967296", "4294967301", "18446744073709551616", "18446744073709551621", "9223372036854775808",
            "16#80000000", "16#100000000", "16#100000005", "16#10000000000000005", "2#1" + "0".repeat(31), "2#1" + "0".repeat(31) + "1",
            "2#1" + "0".repeat(63) + "1", "T#2147483648ms", "T#4294967297ms", "T#18446744073709551617ms", "9".repeat(8000)}) {
            bad(written);
        }
    }

    private static void times() {
        Checks.says("or T# and digits and MS, S, M or H, that many times 1, 1,000, 60,000, 3,600,000.");
        number("T#0h", 0);
        number("T#1ms", 1);
        number("T#1s", 1000);
        number("T#1m", 60000);
        number("T#1h", 3600000);
        number("T#0007s", 7000);
        number("T#2147483s", 2147483000);
        number("T#35791m", 2147460000);
        number("T#596h", 2145600000);
        // one too great; then what wraps around in 32 bits, and in 64
        for (String written : new String[] {"T#2147484s", "T#4294968s", "T#18446744073709552s", "T#35792m", "T#71583m", "T#307445734561826m", "T#597h", "T#1194h",
            "T#5124095576031h"}) {
            bad(written);
        }
        Checks.says("(T or t with # right behind it begins a number.)");
        number("t#1h", 3600000);
        Checks.fine("PROGRAM p VAR T : INT; END_VAR t := T + t; END_PROGRAM");
        Checks.faulty(1, "PROGRAM p VAR t : INT; END_VAR t := t \u00b6#5s; END_PROGRAM");
        Checks.faulty(1, "PROGRAM p VAR t : INT; END_VAR t := xt\u00b6#5s; END_PROGRAM");
        Checks.faulty(4, "PROGRAM \u00b6T# END_PROGRAM");
    }

    private static void places() {
        Checks.says("PLACE: % and one of IX QX MX IW QW MW and digits:");
        String[] areas = {"IX", "QX", "MX", "IW", "QW", "MW"};
        int[] first = {0, 256, 512, 768, 832, 896};
        for (int i = 0; i < areas.length; i++) {
            String type = i < 3 ? "BOOL" : "INT";
            int most = i < 3 ? 255 : 63;
            for (String digits : new String[] {"0", "1", String.valueOf(most), "000" + most, "0".repeat(4000) + "7"}) {
                CodeMaker x = Checks.made("PROGRAM p VAR a AT %" + areas[i] + digits + " : " + type + "; b : " + type + "; END_VAR b := a; END_PROGRAM");
                Checks.due("cell of %" + areas[i] + digits, x.told(0, 0, 1), first[i] + Integer.parseInt(digits));
            }
        }
    }

    private static void badPlace(String written) {
        Checks.faulty(5, "PROGRAM p VAR a AT \u00b6" + written + " : BOOL; END_VAR END_PROGRAM");
    }

    private static void badPlaces() {
        Checks.says("FAULT 5 where it begins: otherwise;");
        for (String written : new String[] {"%", "%%", "% IX1", "%IX", "%IX ", "%IX 1", "%I X1", "%XI1", "%I1", "%X1", "%1", "%IB1", "%ID1", "%AX1", "%IIX1", "%IXX1",
            "%IX-1", "%IX(*1*)1", "%IX#1", "%MW", "%QX/", "%QX:", "%\u00ff\u00ff1"}) {
            badPlace(written);
        }
        Checks.faulty(5, "PROGRAM p VAR a AT \u00b6%");
        Checks.faulty(5, "PROGRAM p VAR a AT \u00b6%I");
        Checks.faulty(5, "PROGRAM p VAR a AT \u00b6%IX");
        Checks.faulty(6, "PROGRAM p VAR a AT %IX1\u00b6");
    }

    private static void tooGreatPlaces() {
        Checks.says("or it is above 255 (X), 63 (W); or a letter, digit or _ comes right behind it.");
        for (String area : new String[] {"I", "Q", "M"}) {
            for (String digits : new String[] {"256", "257", "999", "65536", "4294967296", "4294967297", "18446744073709551616", "9".repeat(4000)}) {
                badPlace("%" + area + "X" + digits);
                badPlace("%" + area + "W" + digits);
            }
            badPlace("%" + area + "W64");
            badPlace("%" + area + "W65");
            badPlace("%" + area + "W255");
            Checks.fine(Checks.program("a AT %" + area + "X255 : BOOL; b AT %" + area + "W63 : INT; c AT %" + area + "X64 : BOOL;", ""));
            for (String behind : new String[] {"a", "Z", "_", "x", "F"}) {
                badPlace("%" + area + "X1" + behind);
                badPlace("%" + area + "W1" + behind);
            }
        }
        Checks.fine("PROGRAM p VAR a AT %IX1:BOOL;b AT %IX2(**):BOOL;END_VAR END_PROGRAM");
        Checks.faulty(6, "PROGRAM p VAR a AT %IX1\u00b6.5 : BOOL; END_VAR END_PROGRAM");
    }

    private static void signs() {
        Checks.says("SIGN: := .. <= >= <> ( ) [ ] , ; : . + - * / = < > & |.");
        for (String sign : ":= .. <= >= <> ( ) [ ] , ; : . + - * / = < > & |".split(" ")) {
            Checks.faulty(6, "\u00b6" + sign);
            Checks.faulty(6, "PROGRAM \u00b6" + sign);
        }
        Checks.fine(Checks.program("x,y:INT;b:BOOL;a:ARRAY[0..1]OF INT;t:TON;", "x:=(x+y-x*y/x);b:=b&b;b:=(x=y);b:=x<y;b:=x>y;b:=x<=y;b:=x>=y;b:=x<>y;a[x]:=1;b:=t.Q;"));
        Checks.fine(Checks.program("b:BOOL;", "LADDER RUNG b|-;-*;END_RUNG END_LADDER"));
    }

    private static void otherBytes() {
        Checks.says("All other bytes: FAULT 1 where they stand.");
        for (int b = 0; b < 256; b++) {
            if (!isBlank(b) && !isNameByte(b) && b != '%' && SIGNS.indexOf(b) < 0) {
                CodeMaker x = new CodeMaker();
                Checks.feed(x, "PROGRAM p" + (char) b + "END_PROGRAM");
                Checks.due("byte " + b, x.make(), 1);
                Checks.due("its place", x.count(1), 9);
                Checks.feed(x, "" + (char) b);
                Checks.due("byte " + b + " alone", x.make(), 1);
                Checks.due("its place", x.count(1), 0);
            }
        }
    }
}
