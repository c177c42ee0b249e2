/** Promise 4, TOKENS: both sides of each boundary, faults 1 to 5 and their places. */
public final class TokenEdgesTest {
    private static final String[] WORDS = ("FUNCTION END_FUNCTION FUNCTION_BLOCK END_FUNCTION_BLOCK PROGRAM END_PROGRAM VAR VAR_INPUT VAR_OUTPUT END_VAR AT BOOL INT DINT ARRAY OF "
        + "IF THEN ELSIF ELSE END_IF CASE END_CASE FOR TO BY DO END_FOR EXIT RETURN OR XOR AND MOD NOT TRUE FALSE LADDER END_LADDER RUNG END_RUNG").split(" ");

    public static void main(String[] args) {
        blanks();
        remarks();
        lengthOfNames();
        bytesOfNames();
        words();
        decimalNumbers();
        numbersOfOtherBases();
        times();
        whatComesBehindNumbers();
        placesUpToTheLast();
        whatComesInPlaces();
        signs();
        allBytes();
        allBytesBehindOthers();
        Bench.finish("TokenEdgesTest");
    }

    private static void text(int fault, String marked) {
        Bench.refused(fault, marked);
    }

    /** A number in the place of a constant; the mark is before it. */
    private static void number(int fault, String number) {
        text(fault, "PROGRAM p VAR d : DINT := " + (fault == 0 ? "" : "@") + number + "; END_VAR END_PROGRAM");
    }

    /** What a number means, as a constant. */
    private static void means(String number, int value) {
        PlantKeeper x = Bench.loaded("PROGRAM p VAR d : DINT := " + number + "; e : DINT := -" + number + "; END_VAR END_PROGRAM");
        Bench.watched(x, "d", 2, value);
        Bench.watched(x, "e", 2, -value);
    }

    /** "BLANKS are 9, 10, 13, 32": no other byte below 33 is one. */
    private static void blanks() {
        for (int c = 0; c < 33; c++) {
            boolean blank = c == 9 || c == 10 || c == 13 || c == 32;
            text(blank ? 0 : 1, "PROGRAM" + (blank ? "" : "@") + (char) c + "p END_PROGRAM");
        }
        text(0, "\t\n\r PROGRAM\t\n\r p\t\n\r END_PROGRAM\t\n\r ");
        text(6, "@PROGRAMp END_PROGRAM");
    }

    /** "all from (* to the next *) behind these two bytes; without that FAULT 2 where it begins." */
    private static void remarks() {
        text(0, "PROGRAM(**)p END_PROGRAM");
        text(2, "PROGRAM@(*)p END_PROGRAM");
        text(0, "PROGRAM(*)*)p END_PROGRAM");
        text(2, "PROGRAM@(*)*p END_PROGRAM");
        text(0, "PROGRAM p(* (* *)END_PROGRAM");
        text(6, "PROGRAM p(* (* *)@*)END_PROGRAM");
        text(0, "PROGRAM p END_PROGRAM(***)");
        text(0, "PROGRAM p END_PROGRAM(**)(**)");
        text(2, "PROGRAM p END_PROGRAM@(*");
        text(2, "PROGRAM p END_PROGRAM@(**");
        text(2, "PROGRAM p END_PROGRAM(**)@(*)");
        text(6, "PROGRAM p END_PROGRAM@(");
        text(6, "PROGRAM p END_PROGRAM@( **)");
        text(0, "PROGRAM p (* \0\1\377 $ ? *) END_PROGRAM");
        // They part tokens.
        text(6, "@PROG(**)RAM p END_PROGRAM");
        text(6, "PROGRAM p VAR a : INT; END_VAR a @:(**)= 1; END_PROGRAM");
    }

    /** "more than 32 bytes: FAULT 3 where it begins." */
    private static void lengthOfNames() {
        for (int n = 30; n <= 35; n++) {
            String name = "n".repeat(n);
            text(n > 32 ? 3 : 0, "PROGRAM " + (n > 32 ? "@" : "") + name + " END_PROGRAM");
            text(n > 32 ? 3 : 0, "PROGRAM p VAR " + (n > 32 ? "@" : "") + name + " : INT; END_VAR END_PROGRAM");
        }
        text(3, "PROGRAM p @" + "_".repeat(16000));
        text(3, "@END_FUNCTION_BLOCKEND_FUNCTION_BLOCK p");
        // Names that are alike in all but the last of 32 bytes are two names.
        String alike = "n".repeat(31);
        text(0, "PROGRAM p VAR " + alike + "a, " + alike + "b : INT; END_VAR END_PROGRAM");
        text(12, "PROGRAM p VAR " + alike + "a, @" + alike + "A : INT; END_VAR END_PROGRAM");
    }

    /** "a letter or _, and letters, digits, _": both ends of each row of bytes. */
    private static void bytesOfNames() {
        for (String name : new String[] {"a", "z", "A", "Z", "_", "a0", "a9", "aA", "aZ", "aa", "az", "a_", "_0", "__"}) {
            text(0, "PROGRAM " + name + " END_PROGRAM");
        }
        for (char c : new char[] {'`', '{', '^', '?', '@', '!'}) {
            for (String before : new String[] {"PROGRAM ", "PROGRAM n"}) {
                String all = before + c + " END_PROGRAM";
                PlantKeeper x = new PlantKeeper();
                Bench.due("load " + all, Bench.load(x, all), 1);
                Bench.due("place in " + all, x.count(1), before.length());
            }
        }
        text(6, "PROGRAM n@/ END_PROGRAM");
        text(6, "PROGRAM n@: END_PROGRAM");
        text(6, "PROGRAM n@[ END_PROGRAM");
        text(6, "PROGRAM @0 END_PROGRAM");
        text(4, "PROGRAM @0n END_PROGRAM");
    }

    /** "These names are WORDS", in letters of both sizes, and no others. */
    private static void words() {
        for (String word : WORDS) {
            for (String form : new String[] {word, word.toLowerCase(), word.charAt(0) + word.substring(1).toLowerCase()}) {
                text(6, "PROGRAM @" + form + " END_PROGRAM");
                text(0, "PROGRAM " + form + "_ END_PROGRAM");
                text(0, "PROGRAM _" + form + " END_PROGRAM");
            }
            if (word.length() > 2) {
                String shorter = word.substring(0, word.length() - 1);
                boolean named = !java.util.Arrays.asList(WORDS).contains(shorter);
                text(named ? 0 : 6, "PROGRAM " + (named ? "" : "@") + shorter + " END_PROGRAM");
            }
        }
        for (String name : "WHILE REPEAT REAL TIME WORD END T STRING N VAR_IN_OUT CONSTANT END_RUN OFF".split(" ")) {
            text(0, "PROGRAM " + name + " END_PROGRAM");
        }
    }

    private static void decimalNumbers() {
        means("0", 0);
        means("9", 9);
        means("10", 10);
        means("0000000000000000000000000000000000000012", 12);
        means("2147483646", 2147483646);
        means("2147483647", 2147483647);
        number(4, "2147483648");
        number(4, "2147483650");
        number(4, "4294967296");
        number(4, "4294967297");
        number(4, "8589934592");
        number(4, "18446744073709551616");
        number(4, "99999999999999999999999999999999");
        // '-' of a constant is another token.
        text(4, "PROGRAM p VAR d : DINT := -@2147483648; END_VAR END_PROGRAM");
    }

    /** "digits that mean 16 or 2, #, and digits of that (0 - 9, A - F in both sizes; 0, 1)". */
    private static void numbersOfOtherBases() {
        means("16#0", 0);
        means("16#9", 9);
        means("16#A", 10);
        means("16#a", 10);
        means("16#F", 15);
        means("16#f", 15);
        means("16#09afAF", 0x09AFAF);
        means("2#0", 0);
        means("2#1", 1);
        means("2#10", 2);
        means("0016#1f", 31);
        means("02#11", 3);
        means("16#000000000007fffffff", 2147483647);
        means("2#" + "0".repeat(40) + "1".repeat(31), 2147483647);
        number(4, "16#80000000");
        number(4, "16#100000000");
        number(4, "16#FFFFFFFFFFFFFFFFFFFF");
        number(4, "2#1" + "0".repeat(31));
        for (String base : new String[] {"0", "1", "3", "8", "10", "15", "17", "20", "22", "32", "160", "18446744073709551618"}) {
            number(4, base + "#1");
        }
        number(4, "16#");
        number(4, "2#");
        number(4, "16#G");
        number(4, "16#g");
        number(4, "16#_");
        number(4, "16# 1");
        number(4, "2#2");
        number(4, "2#12");
        number(4, "2#1A");
        number(4, "16#FG");
        number(4, "16#F_");
        text(1, "PROGRAM p VAR d : DINT := 16#F@#; END_VAR END_PROGRAM");
        text(1, "PROGRAM p VAR d : DINT := 16 @#F; END_VAR END_PROGRAM");
        text(1, "PROGRAM p VAR d : DINT := @#F; END_VAR END_PROGRAM");
    }

    /** "T# and digits and MS, S, M or H, that many times 1, 1,000, 60,000, 3,600,000". */
    private static void times() {
        means("T#0MS", 0);
        means("T#1MS", 1);
        means("t#1ms", 1);
        means("T#1Ms", 1);
        means("T#1mS", 1);
        means("T#1S", 1000);
        means("T#1s", 1000);
        means("T#1M", 60000);
        means("t#1m", 60000);
        means("T#1H", 3600000);
        means("T#1h", 3600000);
        means("T#007S", 7000);
        means("T#2147483647MS", 2147483647);
        number(4, "T#2147483648MS");
        means("T#2147483S", 2147483000);
        number(4, "T#2147484S");
        means("T#35791M", 2147460000);
        number(4, "T#35792M");
        means("T#596H", 2145600000);
        number(4, "T#597H");
        number(4, "T#4294967296S");
        number(4, "T#99999999999999999999999999H");
        number(4, "T#");
        number(4, "t#");
        number(4, "T#S");
        number(4, "T#MS");
        number(4, "T#5");
        number(4, "T#5 S");
        number(4, "T# 5S");
        number(4, "T#5D");
        number(4, "T#5G");
        number(4, "T#5I");
        number(4, "T#5L");
        number(4, "T#5N");
        number(4, "T#5R");
        number(4, "T#5T");
        number(4, "T#5US");
        number(4, "T#5SS");
        number(4, "T#5MM");
        number(4, "T#5MSS");
        number(4, "T#5HM");
        number(4, "T#5S5");
        number(4, "T#5S_");
        number(4, "T#5M_");
        number(4, "T#5M1S");
        number(4, "T#-5S");
        number(4, "T#16#5S");
        // T or t with # right behind it begins a number, whatever comes next; a longer name does not.
        text(4, "PROGRAM @T#");
        text(4, "@t#");
        text(1, "PROGRAM T @#5S END_PROGRAM");
        text(1, "PROGRAM TT@#5S END_PROGRAM");
        text(1, "PROGRAM _T@#5S END_PROGRAM");
        text(1, "PROGRAM S@#5S END_PROGRAM");
        text(0, "PROGRAM T END_PROGRAM");
        text(0, "PROGRAM t END_PROGRAM");
    }

    /** "a letter, digit or _ comes right behind it" */
    private static void whatComesBehindNumbers() {
        for (String behind : new String[] {"a", "z", "A", "Z", "_", "x1"}) {
            number(4, "7" + behind);
            number(4, "T#7H" + behind);
        }
        number(4, "16#7g");
        number(4, "2#02");
        text(0, "PROGRAM p VAR a : ARRAY[1..2] OF INT:=3(**);END_VAR END_PROGRAM");
        text(6, "PROGRAM p VAR d : DINT := 1@.5; END_VAR END_PROGRAM");
        text(1, "PROGRAM p VAR d : DINT := 1@?; END_VAR END_PROGRAM");
        text(6, "PROGRAM p VAR d : DINT := 7 @x; END_VAR END_PROGRAM");
    }

    /** "or it is above 255 (X), 63 (W)" */
    private static void placesUpToTheLast() {
        for (String area : "IX QX MX IW QW MW".split(" ")) {
            int last = area.charAt(1) == 'X' ? 255 : 63;
            String type = area.charAt(1) == 'X' ? "BOOL" : "INT";
            for (int i : new int[] {0, 1, last - 1, last}) {
                text(0, "PROGRAM p VAR a AT %" + area + i + " : " + type + "; END_VAR END_PROGRAM");
                text(0, "PROGRAM p VAR a AT %" + area.toLowerCase() + "000" + i + " : " + type + "; END_VAR END_PROGRAM");
            }
            for (String i : new String[] {String.valueOf(last + 1), "256", "319", "512", "65536", "4294967296", "4294967297", "99999999999999999999999"}) {
                text(5, "PROGRAM p VAR a AT @%" + area + i + " : " + type + "; END_VAR END_PROGRAM");
            }
        }
    }

    private static void whatComesInPlaces() {
        for (String place : new String[] {"%", "%5", "%I", "%I5", "%X5", "%W5", "%XI5", "%IX", "%QW", "%IX-1", "%I X5", "% IX5", "%IX 5", "%JX5", "%HX5", "%PX5", "%RX5", "%LX5",
            "%NX5", "%IV5", "%IY5", "%IB5", "%IXX5", "%IIX5", "%IX5a", "%IX5_", "%IW5Z", "%IXA", "%IX#5", "%%IX5", "%_X5"}) {
            text(5, "PROGRAM p VAR a AT @" + place + " : BOOL; END_VAR END_PROGRAM");
        }
        text(5, "PROGRAM p VAR a AT @%");
        text(5, "PROGRAM p VAR a AT @%I");
        text(5, "PROGRAM p VAR a AT @%IX");
        text(6, "PROGRAM p VAR a AT %IX1@");
        text(0, "PROGRAM p VAR a AT%IX1:BOOL;END_VAR END_PROGRAM");
        text(1, "PROGRAM p VAR a AT %IX1@?");
    }

    /** ":= .. <= >= <> ( ) [ ] , ; : . + - * / = < > & |", each as long as it can be. */
    private static void signs() {
        String head = "PROGRAM p VAR a:INT;z:BOOL;r:ARRAY[0..1]OF INT;END_VAR ";
        text(0, head + "z:=a<=a;z:=a>=a;z:=a<>a;z:=a<a;z:=a>a;z:=a=a;a:=(a+a-a*a/a);z:=z&z;r[0]:=r[1];a:=MAX(a,a);CASE a OF 1..2:END_CASE;END_PROGRAM");
        text(6, head + "a@::=1;END_PROGRAM");
        text(6, head + "a:=@=1;END_PROGRAM");
        text(6, head + "a @= =1;END_PROGRAM");
        text(6, head + "z:=a<=@=a;END_PROGRAM");
        text(6, head + "z:=a<>@>a;END_PROGRAM");
        text(6, head + "z:=a<@<a;END_PROGRAM");
        text(6, head + "z:=a>@<a;END_PROGRAM");
        text(6, head + "z:=a>@>a;END_PROGRAM");
        text(6, head + "z:=a>=@>a;END_PROGRAM");
        text(6, head + "z:=a=@<a;END_PROGRAM");
        text(6, head + "z:=a=@>a;END_PROGRAM");
        text(6, head + "z:=a&@&a;END_PROGRAM");
        text(6, head + "CASE a OF 1..@.2:END_CASE;END_PROGRAM");
        text(6, head + "CASE a OF 1@. .2:END_CASE;END_PROGRAM");
        text(0, head + "a:=-1;a:=a--1;END_PROGRAM");
        text(6, head + "a:=a@|a;END_PROGRAM");
    }

    /** "All other bytes: FAULT 1." Every byte, where a text could go on with a block. */
    private static void allBytes() {
        String signs = "()[],;:.+-*/=<>&|";
        for (int c = 0; c < 256; c++) {
            PlantKeeper x = new PlantKeeper();
            String text = "PROGRAM p END_PROGRAM " + (char) c;
            boolean blank = c == 9 || c == 10 || c == 13 || c == 32;
            boolean token = signs.indexOf(c) >= 0 || c >= '0' && c <= '9' || c >= 'A' && c <= 'Z' || c >= 'a' && c <= 'z' || c == '_';
            Bench.due("byte " + c, Bench.load(x, text), blank ? 0 : token ? 6 : c == '%' ? 5 : 1);
            Bench.due("place of byte " + c, x.count(1), blank ? PlantKeeper.NONE : 22);
        }
    }

    private static boolean isDigit(int c) {
        return c >= '0' && c <= '9';
    }

    private static boolean isLetter(int c) {
        return c >= 'A' && c <= 'Z' || c >= 'a' && c <= 'z' || c == '_';
    }

    /** The fault of a byte that begins a token which can't come: 0 is a blank. */
    private static int alone(int c) {
        if (c == 9 || c == 10 || c == 13 || c == 32) {
            return 0;
        }
        return c == '%' ? 5 : "()[],;:.+-*/=<>&|".indexOf(c) >= 0 ? 6 : 1;
    }

    /** Every byte right behind a name, each kind of number, and a place: part of it, its fault, or the next token. */
    private static void allBytesBehindOthers() {
        for (int c = 0; c < 256; c++) {
            boolean part = isDigit(c) || isLetter(c);
            boolean hex = isDigit(c) || c >= 'A' && c <= 'F' || c >= 'a' && c <= 'f';
            String number = "PROGRAM p VAR d : DINT := ";
            String tail = "; END_VAR END_PROGRAM";
            behind(number, "1", c, tail, isDigit(c) ? 0 : isLetter(c) || c == '#' ? 4 : -1);
            behind(number, "16#1", c, tail, hex ? 0 : part ? 4 : -1);
            behind(number, "16#", c, tail, hex ? 0 : 4);
            behind(number, "2#1", c, tail, c == '0' || c == '1' ? 0 : part ? 4 : -1);
            behind(number, "2#", c, tail, c == '0' || c == '1' ? 0 : 4);
            behind(number, "T#1S", c, tail, part ? 4 : -1);
            behind(number, "T#1M", c, tail, c == 'S' || c == 's' ? 0 : part ? 4 : -1);
            behind(number, "T#1MS", c, tail, part ? 4 : -1);
            behind(number, "T#1", c, tail, "SsMmHh".indexOf(c) >= 0 ? 0 : 4);
            behind(number, "T#", c, "S" + tail, isDigit(c) ? 0 : 4);
            behind(number, "T", c, "5S" + tail, c == '#' ? 0 : 6);
            behind("PROGRAM p VAR a AT ", "%IX1", c, " : BOOL; END_VAR END_PROGRAM", isDigit(c) ? 0 : isLetter(c) ? 5 : -1);
            behind("PROGRAM p VAR a AT ", "%IX", c, " : BOOL; END_VAR END_PROGRAM", isDigit(c) ? 0 : 5);
            behind("PROGRAM p VAR a AT ", "%I", c, "1 : BOOL; END_VAR END_PROGRAM", c == 'X' || c == 'x' ? 0 : c == 'W' || c == 'w' ? 15 : 5);
            behind("PROGRAM p VAR a AT ", "%", c, "X1 : BOOL; END_VAR END_PROGRAM", "IiQqMm".indexOf(c) >= 0 ? 0 : 5);
            behind("PROGRAM ", "n", c, " END_PROGRAM", part ? 0 : -1);
        }
    }

    /** A token with a byte right behind it; -1: the token ends before it. The places of rules are not asked here. */
    private static void behind(String head, String token, int c, String tail, int fault) {
        if (fault < 0 && c == (token.startsWith("%") ? ':' : ';')) {
            // It can come here.
            return;
        }
        PlantKeeper x = new PlantKeeper();
        String text = head + token + (char) c + tail;
        int want = fault >= 0 ? fault : alone(c);
        Bench.due("byte " + c + " behind " + token, Bench.load(x, text), want);
        if (fault != 15) {
            Bench.due("its place", x.count(1), want == 0 ? PlantKeeper.NONE : fault < 0 ? head.length() + token.length() : head.length());
        }
    }
}
