/** Promise 4, judging: RULES, faults 10 to 44, their places and their order. */
public final class RulesTest {
    private static final String FB = "FUNCTION_BLOCK fb VAR_INPUT i : INT; j : DINT; END_VAR VAR_OUTPUT o : BOOL; w : INT; END_VAR "
        + "VAR v : INT; END_VAR END_FUNCTION_BLOCK ";
    private static final String FN = "FUNCTION fn : DINT VAR_INPUT u : BOOL; n : INT; m : DINT; END_VAR END_FUNCTION ";
    private static final String HEAD = FB + FN + "PROGRAM p VAR a, b : INT; d, e : DINT; z, y : BOOL; r : ARRAY [0 .. 3] OF INT; "
        + "s : ARRAY [1 .. 2] OF BOOL; t : TON; c : CTU; k : fb; ix AT %IX0 : BOOL; iw AT %IW0 : INT; qx AT %QX0 : BOOL; END_VAR ";

    public static void main(String[] args) {
        blocks();
        sections();
        declaredNames();
        places();
        arraysAndInstances();
        constants();
        cells();
        names();
        calls();
        operators();
        assignments();
        invocations();
        standardBlocks();
        statements();
        loops();
        ladders();
        order();
        Bench.finish("RulesTest");
    }

    private static void body(int fault, String marked) {
        Bench.refused(fault, HEAD + marked + " END_PROGRAM");
    }

    private static void body(String text) {
        body(0, text);
    }

    private static void variables(int fault, String marked) {
        Bench.refused(fault, FB + FN + "PROGRAM p VAR " + marked + " END_VAR END_PROGRAM");
    }

    private static void blocks() {
        Bench.refused(10, "");
        Bench.refused(10, "@ FUNCTION_BLOCK a END_FUNCTION_BLOCK");
        Bench.refused(10, "PROGRAM p END_PROGRAM @PROGRAM q END_PROGRAM");
        Bench.refused(10, "PROGRAM p END_PROGRAM @FUNCTION p : INT END_FUNCTION");
        Bench.refused(10, "PROGRAM p END_PROGRAM @FUNCTION_BLOCK f x := 1; END_FUNCTION_BLOCK");
        Bench.refused(11, "@PROGRAM ton END_PROGRAM");
        Bench.refused(11, "@PROGRAM To_Bool END_PROGRAM");
        Bench.refused(11, FB + "@PROGRAM FB END_PROGRAM");
        Bench.refused(11, FN + "@FUNCTION fn : INT END_FUNCTION PROGRAM p END_PROGRAM");
        Bench.accepted("FUNCTION in : INT END_FUNCTION FUNCTION_BLOCK q1 END_FUNCTION_BLOCK PROGRAM T END_PROGRAM");
        String eight = "FUNCTION f : INT VAR_INPUT a, b, c, d, e, g, h, i : INT; END_VAR VAR w : INT; END_VAR ";
        Bench.accepted(eight + "END_FUNCTION PROGRAM p END_PROGRAM");
        Bench.refused(44, " @" + eight + "VAR_INPUT j : INT; END_VAR END_FUNCTION PROGRAM p END_PROGRAM");
        Bench.refused(20, eight + "VAR_INPUT j : INT; END_VAR @x := 1; END_FUNCTION PROGRAM p END_PROGRAM");
        Bench.accepted(eight.replace("FUNCTION f : INT", "FUNCTION_BLOCK f") + "VAR_INPUT j : INT; END_VAR END_FUNCTION_BLOCK PROGRAM p END_PROGRAM");
    }

    private static void sections() {
        Bench.refused(13, "PROGRAM p @VAR_INPUT END_VAR END_PROGRAM");
        Bench.refused(13, "PROGRAM p VAR END_VAR @VAR_OUTPUT a : INT; END_VAR END_PROGRAM");
        Bench.refused(13, "FUNCTION f : INT @VAR_OUTPUT a : INT; END_VAR END_FUNCTION PROGRAM p END_PROGRAM");
        Bench.refused(12, "PROGRAM p VAR_INPUT @abs : INT; END_VAR END_PROGRAM");
        Bench.refused(43, "PROGRAM p VAR_INPUT @a : TON; END_VAR END_PROGRAM");
        Bench.refused(43, "FUNCTION_BLOCK f VAR_INPUT @a, b : ARRAY [1 .. 2] OF INT; END_VAR END_FUNCTION_BLOCK PROGRAM p END_PROGRAM");
        Bench.refused(43, "FUNCTION_BLOCK f VAR_OUTPUT a : INT; @b : SR := 1; END_VAR END_FUNCTION_BLOCK PROGRAM p END_PROGRAM");
    }

    private static void declaredNames() {
        variables(12, "a : INT; @A : BOOL;");
        variables(12, "a, b, @a : INT;");
        variables(12, "@p : INT;");
        variables(12, "@fb : INT;");
        variables(12, "a, @Fn : INT;");
        variables(12, "@ctd : INT;");
        variables(12, "@limit : INT;");
        variables(0, "in, q, pt, et, i, o, u : INT;");
        Bench.refused(12, "FUNCTION f : INT VAR @f : INT; END_VAR END_FUNCTION PROGRAM p END_PROGRAM");
        Bench.accepted("FUNCTION f : INT VAR p : INT; END_VAR END_FUNCTION PROGRAM p VAR g : INT; END_VAR END_PROGRAM");
    }

    private static void places() {
        variables(14, "a, b AT @%IX0 : BOOL;");
        variables(14, "a AT %IX0 : BOOL; b AT @%IX0 : BOOL;");
        variables(0, "a AT %IX0 : BOOL; b AT %IX1 : BOOL; c AT %QX0 : BOOL; d AT %MX0 : BOOL; e AT %IW0 : INT; f AT %QW0 : INT; g AT %MW0 : INT;");
        Bench.refused(14, "FUNCTION_BLOCK f VAR a AT @%MX0 : BOOL; END_VAR END_FUNCTION_BLOCK");
        Bench.refused(14, "FUNCTION f : INT VAR a AT @%MX0 : BOOL; END_VAR END_FUNCTION");
        variables(15, "@a AT %IX0 : INT;");
        variables(15, "@a AT %MW0 : BOOL;");
        variables(15, "@a AT %QW0 : DINT;");
        variables(15, "@a AT %MX0 : TON;");
        variables(15, "@a AT %MX0 : ARRAY [0 .. 0] OF BOOL;");
        variables(16, "a AT %MX0 : @ARRAY [1 .. 0] OF BOOL;");
    }

    private static void arraysAndInstances() {
        variables(0, "a : ARRAY [-128 .. 127] OF DINT; b : ARRAY [5 .. 5] OF BOOL; c : ARRAY [2147483392 .. 2147483647] OF INT;");
        variables(16, "a : @ARRAY [-128 .. 128] OF INT;");
        variables(16, "a : @ARRAY [-2147483647 .. 2147483647] OF INT;");
        variables(16, "a : @ARRAY [1 .. 0] OF INT;");
        variables(16, "a : @ARRAY [FALSE .. 1] OF INT;");
        variables(16, "a : @ARRAY [0 .. TRUE] OF INT;");
        Bench.refused(16, "FUNCTION f : INT VAR a : @ARRAY [0 .. 1] OF INT; END_VAR END_FUNCTION");
        variables(0, "a : fb; b : tof; c, d : tp; e : ctd; f : r_trig; g : F_TRIG; h : sr; i : rs;");
        variables(17, "a : @nothing;");
        variables(17, "a : @fn;");
        variables(17, "a : @p;");
        variables(17, "a : @abs;");
        Bench.refused(17, "FUNCTION f : INT VAR a : @TON; END_VAR END_FUNCTION");
        Bench.refused(17, "FUNCTION_BLOCK f VAR a : @f; END_VAR END_FUNCTION_BLOCK");
        Bench.refused(17, "FUNCTION_BLOCK f VAR a : @g; END_VAR END_FUNCTION_BLOCK FUNCTION_BLOCK g END_FUNCTION_BLOCK");
    }

    private static void constants() {
        variables(0, "a : INT := -32768; b : INT := 32767; c : DINT := -2147483647; d : BOOL := TRUE; "
            + "e : ARRAY [0 .. 1] OF BOOL := FALSE; f : ARRAY [0 .. 1] OF INT := 7; g AT %QX0 : BOOL := TRUE; h AT %MW0 : INT := 3;");
        variables(18, "@a : INT := -32769;");
        variables(18, "@a : INT := 32768;");
        variables(18, "@a : ARRAY [0 .. 1] OF INT := 32768;");
        variables(18, "@a : INT := TRUE;");
        variables(18, "@a : DINT := FALSE;");
        variables(18, "@a : BOOL := 1;");
        variables(18, "@a : ARRAY [0 .. 1] OF BOOL := 0;");
        variables(18, "@a : ARRAY [0 .. 1] OF INT := TRUE;");
        variables(18, "@a : TON := 0;");
        variables(18, "@a : fb := TRUE;");
        variables(18, "@a AT %IX0 : BOOL := TRUE;");
        variables(18, "@a AT %IW0 : INT := 1;");
        variables(15, "@a AT %IW0 : BOOL := 1;");
    }

    private static String arrays(int n) {
        StringBuilder text = new StringBuilder();
        for (int i = 0; i < n; i++) {
            text.append("x").append(i).append(" : ARRAY [1 .. 256] OF INT; ");
        }
        return text.toString();
    }

    private static void cells() {
        // The 960 cells of the areas are the PROGRAM's first ones: 12 * 256 and 64 go in.
        variables(0, arrays(12) + "a : ARRAY [1 .. 64] OF INT; b AT %MX0 : BOOL;");
        variables(19, arrays(12) + "a : ARRAY [1 .. 64] OF INT; @b : BOOL; c : BOOL;");
        variables(19, arrays(12) + "@a : ARRAY [1 .. 65] OF INT;");
        String sixteen = arrays(16);
        Bench.accepted("FUNCTION_BLOCK f VAR " + sixteen + " END_VAR LADDER END_LADDER END_FUNCTION_BLOCK PROGRAM p END_PROGRAM");
        Bench.refused(19, "FUNCTION_BLOCK f VAR " + sixteen + " @a, b : BOOL; END_VAR END_FUNCTION_BLOCK PROGRAM p END_PROGRAM");
        Bench.refused(19, "FUNCTION_BLOCK f VAR " + sixteen + " END_VAR LADDER END_LADDER END_FUNCTION_BLOCK "
            + "FUNCTION_BLOCK g VAR @a : f; END_VAR END_FUNCTION_BLOCK PROGRAM p END_PROGRAM");
        // 42: the PROGRAM's 960, and FUNCTIONS of 157 cells each (own name and 156): 46 of them are 7,222.
        StringBuilder functions = new StringBuilder();
        for (int i = 0; i < 46; i++) {
            functions.append("FUNCTION f").append(i).append(":INT LADDER END_LADDER END_FUNCTION ");
        }
        String program = "PROGRAM p VAR a : ARRAY [1 .. 10] OF INT; %s END_VAR END_PROGRAM";
        Bench.refused(50, functions + program.formatted(""));
        Bench.refused(42, functions + program.formatted("b : BOOL;"));
    }

    private static void names() {
        body("a := b; d := a; z := y; r[a] := r[1]; z := s[d]; z := t.q; d := t.ET; a := c.CV; z := k.o; a := K.W;");
        body(20, "@q := 1;");
        body(20, "a := @fn;");
        body(20, "a := @p;");
        body(20, "a := a + @ton;");
        body(20, "@q[1] := 1;");
        body(20, "a := @q[1];");
        body(20, "z := @q.q;");
        body(20, "@q();");
        body(20, "@fb();");
        body(20, "@FOR q := 1 TO 2 DO END_FOR;");
        body(20, "@i := 1;");
        body(21, "@r := 1;");
        body(21, "a := @r;");
        body(21, "a := @t;");
        body(21, "@a[1] := 1;");
        body(21, "a := @t[1];");
        body(21, "a := @a.q;");
        body(21, "a := @r.q;");
        body(21, "@a();");
        body(21, "@r();");
        body(21, "@FOR r := 1 TO 2 DO END_FOR;");
        body(21, "@FOR t := 1 TO 2 DO END_FOR;");
        body(22, "@r[z] := 1;");
        body(22, "a := @r[z];");
        body(23, "a := @t.nothing;");
        body(23, "a := @t.in;");
        body(23, "a := @t.cv;");
        body(23, "a := @k.i;");
        body(23, "a := @k.v;");
        Bench.refused(20, "PROGRAM p VAR a : INT; END_VAR a := @b; END_PROGRAM");
        Bench.refused(20, "FUNCTION f : INT VAR x : INT; END_VAR f := f + 1; END_FUNCTION PROGRAM p VAR a : INT; END_VAR a := @x; END_PROGRAM");
    }

    private static void calls() {
        body("d := fn(z, 1, 2); d := fn(TRUE, a, a) + fn(TO_BOOL(1), 1, 1);");
        body("a := ABS(a); d := ABS(d); a := MIN(a, b); d := MAX(a, d); d := LIMIT(a, b, d); a := LIMIT(1, a, 3);");
        body("a := SEL(z, a, b); d := SEL(z, a, d); z := SEL(z, z, TRUE); a := SHL(a, d); d := SHR(d, a);");
        body("a := TO_INT(z); a := TO_INT(a); a := TO_INT(d); d := TO_DINT(z); d := TO_DINT(a); z := TO_BOOL(a); z := TO_BOOL(d);");
        Bench.accepted("FUNCTION f : INT VAR_INPUT a : INT; END_VAR END_FUNCTION FUNCTION_BLOCK g VAR_INPUT b : INT; END_VAR END_FUNCTION_BLOCK "
            + "PROGRAM p VAR n : INT; END_VAR n := f(1); END_PROGRAM");
        body(24, "a := @nothing(1);");
        body(24, "a := @fb(1);");
        body(24, "a := @p(1);");
        body(24, "a := @ton(1);");
        body(24, "a := @a(1);");
        Bench.refused(24, "FUNCTION f : INT VAR_INPUT a : INT; END_VAR f := @f(a); END_FUNCTION PROGRAM p END_PROGRAM");
        Bench.refused(24, "FUNCTION f : INT f := @g(); END_FUNCTION FUNCTION g : INT END_FUNCTION PROGRAM p END_PROGRAM");
        body(25, "a := @abs();");
        body(25, "a := @abs(1, 2);");
        body(25, "a := @min(1);");
        body(25, "a := @max(1, 2, 3);");
        body(25, "a := @limit(1, 2);");
        body(25, "a := @sel(z, 2);");
        body(25, "a := @shl(1);");
        body(25, "a := @shr(1, 2, 3);");
        body(25, "a := @to_int();");
        body(25, "a := @to_dint(1, 2);");
        body(25, "z := @to_bool(z, z);");
        body(25, "d := @fn(z, 1);");
        body(25, "d := @fn(z, 1, 2, 3);");
        body(26, "a := @abs(z);");
        body(26, "a := @min(z, 1);");
        body(26, "a := @max(1, z);");
        body(26, "a := @limit(1, 2, z);");
        body(26, "a := @sel(1, 1, 1);");
        body(26, "a := @sel(z, z, 1);");
        body(26, "a := @sel(z, 1, z);");
        body(26, "a := @shl(z, 1);");
        body(26, "a := @shr(1, z);");
        body(26, "z := @to_bool(z);");
        body(26, "d := @fn(1, 1, 2);");
        body(26, "d := @fn(z, d, 2);");
        body(26, "d := @fn(z, 1, z);");
        body(31, "a @:= fn(z, 1, 2);");
        body(31, "a @:= abs(d);");
        body(31, "a @:= min(a, d);");
        body(31, "a @:= limit(a, a, d);");
        body(31, "a @:= sel(z, a, d);");
        body(31, "a @:= shl(d, a);");
        body(31, "a @:= to_dint(a);");
        body(31, "a @:= to_bool(a);");
        body(31, "z @:= to_int(z);");
        body(31, "z @:= sel(z, 1, 2);");
    }

    private static void operators() {
        body("z := z OR y XOR z AND y & z; a := a OR b XOR 5 AND b; d := a OR d; z := z = y; z := z <> y; z := a = d; z := a < d = (z);");
        body("z := a > b; z := a <= d; z := a >= b; a := a + b - 3 * a / b MOD 7; d := a + d; d := -d; a := -a; a := NOT a; z := NOT z; d := NOT d;");
        String[] both = {"OR", "XOR", "AND", "&", "=", "<>"};
        for (String sign : both) {
            body(27, "z := z @" + sign + " 1;");
            body(27, "z := 1 @" + sign + " z;");
        }
        String[] numbers = {"<", ">", "<=", ">=", "+", "-", "*", "/", "MOD"};
        for (String sign : numbers) {
            body(27, "z := z @" + sign + " y;");
            body(27, "z := a @" + sign + " y;");
            body(27, "z := z @" + sign + " a;");
        }
        body(28, "a := @-z;");
        body(28, "a := 1 + @-(a < b);");
        body(31, "a @:= 32768;");
        body(31, "a @:= -32768;");
        body(31, "a @:= a + d;");
        body(31, "a @:= a * 32768;");
        body("a := 32767; a := -32767; d := 32768;");
        body(31, "a @:= a = b;");
        body(31, "z @:= a + b;");
        body(31, "z @:= NOT a;");
        // The later named operators bind closer, and all from the left on.
        body("z := a < b = (b > a); z := a + b * d > a OR z; z := z OR a = b AND y; z := NOT z AND y;");
        body(27, "z := a = b @= a;");
        body(27, "z := a < b @< a;");
        body(27, "z := a @AND b = a;");
        body(28, "a := NOT @-z;");
    }

    private static void assignments() {
        body("a := 1; d := a; qx := ix; r[1] := iw; s[a] := z;");
        body(29, "ix @:= z;");
        body(29, "iw @:= 1;");
        body(29, "ix @:= 1;");
        Bench.refused(29, "FUNCTION f : INT VAR_INPUT a : INT; END_VAR a @:= 1; END_FUNCTION");
        Bench.refused(29, "FUNCTION_BLOCK f VAR_INPUT a : INT; END_VAR a @:= TRUE; END_FUNCTION_BLOCK");
        Bench.accepted("FUNCTION_BLOCK f VAR_OUTPUT a : INT; END_VAR a := a; END_FUNCTION_BLOCK PROGRAM p END_PROGRAM");
        body(30, "FOR a := 1 TO 2 DO a @:= 1; END_FOR;");
        body(30, "FOR a := 1 TO 2 DO IF z THEN FOR b := 1 TO 2 DO A @:= z; END_FOR; END_IF; END_FOR;");
        body(30, "FOR r := 1 TO 2 DO r[1] @:= 1; END_FOR;");
        body("FOR a := 1 TO 2 DO b := a; END_FOR; a := 1;");
        body(31, "a @:= z;");
        body(31, "a @:= d;");
        body(31, "z @:= a;");
        body(31, "r[1] @:= d;");
        body(31, "s[1] @:= 1;");
    }

    private static void invocations() {
        body("t(); t(IN := z); t(pt := a, in := y); c(PV := a, R := z, CU := TRUE); k(i := a, j := a); k(j := d);");
        body(32, "t(@q := z);");
        body(32, "t(@nothing := z);");
        body(32, "k(@v := 1);");
        body(32, "k(@o := z);");
        body(33, "t(IN := z, @in := z);");
        body(33, "t(IN := z, PT := 1, @in := 5);");
        body(31, "t(@IN := 1);");
        body(31, "t(@PT := z);");
        body(31, "c(@PV := d);");
        body(31, "k(i := 1, @j := z);");
        body(31, "k(@i := d);");
        body(20, "@q(nothing := 1, nothing := z);");
        body(21, "@a(nothing := 1, nothing := z);");
        body(20, "q(x := @w);");
        body(27, "t(zz := a @+ z);");
    }

    /** All inputs and outputs, and their types: inputs are told alone, outputs are read alone. */
    private static void standardBlocks() {
        String[][] rows = {{"TON", "IN z PT d", "Q z ET d"}, {"TOF", "IN z PT d", "Q z ET d"}, {"TP", "IN z PT d", "Q z ET d"},
            {"CTU", "CU z R z PV a", "Q z CV a"}, {"CTD", "CD z LD z PV a", "Q z CV a"}, {"R_TRIG", "CLK z", "Q z"}, {"F_TRIG", "CLK z", "Q z"},
            {"SR", "S1 z R z", "Q1 z"}, {"RS", "S z R1 z", "Q1 z"}};
        for (String[] row : rows) {
            String head = "PROGRAM p VAR z : BOOL; a : INT; d : DINT; k : " + row[0] + "; END_VAR ";
            String[] inputs = row[1].split(" ");
            String[] outputs = row[2].split(" ");
            for (int i = 0; i < inputs.length; i += 2) {
                Bench.accepted(head + "k(" + inputs[i] + " := " + inputs[i + 1] + "); END_PROGRAM");
                Bench.refused(23, head + inputs[i + 1] + " := @k." + inputs[i] + "; END_PROGRAM");
                String wrong = inputs[i + 1].equals("z") ? "a" : inputs[i + 1].equals("a") ? "d" : "z";
                Bench.refused(31, head + "k(@" + inputs[i] + " := " + wrong + "); END_PROGRAM");
            }
            for (int i = 0; i < outputs.length; i += 2) {
                Bench.accepted(head + outputs[i + 1] + " := k." + outputs[i] + "; END_PROGRAM");
                Bench.refused(32, head + "k(@" + outputs[i] + " := " + outputs[i + 1] + "); END_PROGRAM");
                String wrong = outputs[i + 1].equals("d") ? "a" : outputs[i + 1].equals("a") ? "z" : "d";
                Bench.refused(31, head + wrong + " @:= k." + outputs[i] + "; END_PROGRAM");
            }
        }
    }

    private static void statements() {
        body("IF z THEN ELSIF y THEN ELSE END_IF; CASE a OF END_CASE; CASE d OF 1: END_CASE;");
        body(34, "@IF a THEN END_IF;");
        body(34, "@IF z THEN ELSIF d THEN END_IF;");
        body(20, "IF a THEN @q := 1; END_IF;");
        body(34, "@CASE z OF 1: END_CASE;");
        body(35, "CASE z OF @TRUE: END_CASE;");
        body(35, "CASE a OF 1, @2 .. 1: END_CASE;");
        body(35, "CASE a OF @-1 .. -2: END_CASE;");
        body(35, "CASE a OF @0 .. FALSE: END_CASE;");
        body("CASE a OF -5 .. -5, 100000, 1 .. 2: 1: END_CASE;");
        body(37, "@EXIT;");
        body(37, "IF z THEN @EXIT; END_IF; FOR a := 1 TO 2 DO EXIT; END_FOR;");
        body(37, "FOR a := 1 TO 2 DO END_FOR; @EXIT;");
        body("FOR a := 1 TO 2 DO IF z THEN EXIT; END_IF; CASE a OF 1: EXIT; END_CASE; END_FOR;");
    }

    private static void loops() {
        body(53, "FOR a := -32768 TO 32767 DO END_FOR;", "PROGRAM");
        body("FOR a := -32768 TO 32767 BY 100 DO END_FOR;");
        body(22, "@FOR z := 1 TO 2 DO END_FOR;");
        body(22, "@FOR ix := 1 TO 2 DO END_FOR;");
        body(29, "@FOR iw := 1 TO TRUE DO END_FOR;");
        Bench.refused(29, "FUNCTION f : INT VAR_INPUT a : INT; END_VAR @FOR a := 1 TO 2 DO END_FOR; END_FUNCTION");
        body(30, "FOR a := 1 TO 2 DO @FOR a := 1 TO 2 DO END_FOR; END_FOR;");
        body(30, "FOR a := 1 TO 2 DO FOR b := 1 TO 2 DO @FOR a := 1 TO 2 DO END_FOR; END_FOR; END_FOR;");
        body("FOR a := 1 TO 2 DO FOR b := 1 TO 2 DO END_FOR; FOR b := 1 TO 2 DO END_FOR; END_FOR; FOR a := 1 TO 2 DO END_FOR;");
        body(36, "@FOR a := TRUE TO 2 DO END_FOR;");
        body(36, "@FOR a := 1 TO FALSE DO END_FOR;");
        body(36, "@FOR a := 1 TO 2 BY TRUE DO END_FOR;");
        body(36, "@FOR a := 1 TO 2 BY 0 DO END_FOR;");
        body(36, "@FOR a := 2 TO 1 BY 0 DO END_FOR;");
        body(36, "@FOR a := -32769 TO 2 DO END_FOR;");
        body(36, "@FOR a := 1 TO 32768 DO END_FOR;");
        body(36, "@FOR a := 1 TO 2 BY 32768 DO END_FOR;");
        body("FOR d := 1 TO 2 BY 32768 DO END_FOR;");
        body(36, "@FOR d := 1 TO 1000001 DO END_FOR;");
        body(53, "FOR d := 1 TO 1000000 DO END_FOR;", "PROGRAM");
        body(36, "@FOR d := 2000000 TO 0 BY -2 DO END_FOR;");
        body(53, "FOR d := 1999999 TO 0 BY -2 DO END_FOR;", "PROGRAM");
        body("FOR d := 1 TO 2147483647 BY -1 DO END_FOR; FOR d := -2147483647 TO 2147483647 BY 2147483647 DO END_FOR;");
        body(20, "FOR z := 1 TO 2 DO @q := 1; END_FOR;");
    }

    /** The fault is told at the PROGRAM's place. */
    private static void body(int fault, String text, String where) {
        String all = HEAD + text + " END_PROGRAM";
        int at = all.indexOf(where + " p");
        Bench.refused(fault, all.substring(0, at) + "@" + all.substring(at));
    }

    private static void rungs(int fault, String marked) {
        body(fault, "LADDER " + marked + " END_LADDER");
    }

    private static void ladders() {
        rungs(0, "RUNG z /y | >t.Q <k.o (qx); - * y - (/z); END_RUNG RUNG (+z); END_RUNG RUNG - ; * ; END_RUNG");
        String twelve = "- - - - - - - - - - - (z);";
        rungs(0, "RUNG " + twelve.repeat(12) + " END_RUNG");
        rungs(38, "@RUNG " + twelve.repeat(13) + " END_RUNG");
        rungs(38, "@RUNG - " + twelve + " END_RUNG");
        rungs(38, "@RUNG z y; z; END_RUNG");
        rungs(38, "@RUNG z; z y; END_RUNG");
        rungs(0, "RUNG - | - - - - - - - - - - (z); " + twelve + " END_RUNG");
        rungs(39, "RUNG @(z) y; END_RUNG");
        rungs(39, "RUNG @(z) | y; - -; END_RUNG");
        rungs(39, "RUNG @(a) | y; - -; END_RUNG");
        rungs(40, "RUNG z @| y; END_RUNG");
        rungs(40, "RUNG z | y; z @| y; END_RUNG");
        rungs(40, "RUNG z @| y; END_RUNG RUNG z y; END_RUNG");
        rungs(41, "RUNG @a; END_RUNG");
        rungs(41, "RUNG @/d; END_RUNG");
        rungs(41, "RUNG z @>k.w; END_RUNG");
        rungs(41, "RUNG @(/a); END_RUNG");
        rungs(29, "RUNG @(ix); END_RUNG");
        rungs(41, "RUNG @(iw); END_RUNG");
        rungs(20, "RUNG @q; END_RUNG");
        rungs(20, "RUNG /@q; END_RUNG");
        rungs(20, "RUNG (+@q); END_RUNG");
        rungs(21, "RUNG @t; END_RUNG");
        rungs(21, "RUNG <@z.q; END_RUNG");
        rungs(21, "RUNG (@s); END_RUNG");
        rungs(23, "RUNG /@t.in; END_RUNG");
        rungs(39, "RUNG @(z) y; y; END_RUNG");
        Bench.refused(29, "FUNCTION_BLOCK f VAR_INPUT a : BOOL; END_VAR LADDER RUNG @(a); END_RUNG END_LADDER END_FUNCTION_BLOCK");
    }

    private static void order() {
        // Each node behind its children, otherwise in their order.
        body(20, "a := @q + z;");
        body(27, "a := (a @+ z) + q;");
        body(20, "r[@q] := z;");
        body(22, "@r[z] := q;");
        body(20, "a := fn(@q);");
        body(20, "a := nothing(@q);");
        body(22, "a := 1; @r[z] := q;");
        body(35, "CASE z OF @2 .. 1: q := 1; END_CASE;");
        body(20, "CASE @q OF 2 .. 1: END_CASE;");
        variables(12, "a, @abs AT %IX0 : nothing;");
        variables(14, "a, b AT @%IX0 : nothing;");
        variables(17, "a AT %IX0 : @nothing := 1;");
        Bench.refused(11, "@FUNCTION abs : INT VAR abs : INT; END_VAR END_FUNCTION");
        Bench.refused(20, "FUNCTION f : INT VAR_INPUT a, b, c, d, e, g, h, i, j : INT; END_VAR f := @x; END_FUNCTION PROGRAM abs END_PROGRAM");
        Bench.refused(44, "@FUNCTION f : INT VAR_INPUT a, b, c, d, e, g, h, i, j : INT; END_VAR END_FUNCTION PROGRAM abs END_PROGRAM");
    }
}
