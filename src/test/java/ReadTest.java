/** Promise 4, reading: TOKENS, GRAMMAR and DEPTH, faults 1 to 7 and their places. */
public final class ReadTest {
    private static final String HEAD = "PROGRAM p VAR a, b, c : INT; d : DINT; z : BOOL; r : ARRAY [0 .. 3] OF INT; t : TON; END_VAR ";
    private static final String TAIL = " END_PROGRAM";

    public static void main(String[] args) {
        blanks();
        names();
        numbers();
        places();
        signs();
        grammarOfBlocks();
        grammarOfStatements();
        grammarOfLadders();
        firstFault();
        depth();
        Bench.finish("ReadTest");
    }

    private static void body(int fault, String marked) {
        Bench.refused(fault, HEAD + marked + TAIL);
    }

    private static void body(String text) {
        body(0, text);
    }

    private static void blanks() {
        Bench.accepted("\t\r\n PROGRAM\tp\nEND_PROGRAM\r");
        Bench.accepted("(* a *)PROGRAM(**)p(* ( * (* *)END_PROGRAM(***)");
        body("a(* *):=(*)*)1;");
        Bench.refused(2, "PROGRAM p @(* END_PROGRAM");
        Bench.refused(2, "PROGRAM p @(*) END_PROGRAM");
        Bench.refused(2, "PROGRAM p END_PROGRAM @(*");
        Bench.refused(6, "PROGRAM p @5 (*");
        Bench.refused(1, "PROGRAM p @\f END_PROGRAM");
        Bench.refused(1, "PROGRAM p @\0 END_PROGRAM");
    }

    private static void names() {
        String longest = "ABCDEFGHIJKLMNOPQRSTUVWXYZ_01234";
        Bench.accepted("PROGRAM " + longest + " END_PROGRAM");
        Bench.refused(3, "PROGRAM @" + longest + "5 END_PROGRAM");
        Bench.refused(3, "@" + longest + "5");
        Bench.accepted("PROGRAM p VAR " + longest + " : INT; END_VAR " + longest.toLowerCase() + " := 1; END_PROGRAM");
        Bench.refused(12, "PROGRAM p VAR " + longest + ", @" + longest + " : INT; END_VAR END_PROGRAM");
        Bench.accepted("program P var _x1, X_1 : Bool; end_var _X1 := x_1; end_Program");
        Bench.refused(6, "PROGRAM @END_VAR END_PROGRAM");
        Bench.refused(6, "PROGRAM @dint END_PROGRAM");
        Bench.refused(1, "PROGRAM p@\u00e4 END_PROGRAM");
    }

    private static void numbers() {
        body("a := 0; a := 007; a := 016#7Fff; a := 0002#0101; d := 2147483647; d := 16#7fffffff;");
        body("d := T#5MS; d := t#5s; d := T#5m; d := T#5H; d := t#2147483647ms; d := T#596H;");
        body("d := 2#1111111111111111111111111111111;");
        body(4, "d := @2147483648;");
        body(4, "d := @99999999999999999999999999999;");
        body(4, "d := @16#80000000;");
        body(4, "d := @T#597H;");
        body(4, "d := @8#7;");
        body(4, "d := @17#7;");
        body(4, "d := @16#;");
        body(4, "d := @16#G;");
        body(4, "d := @2#2;");
        body(4, "d := @2#102;");
        body(4, "d := @16#1G;");
        body(4, "d := @1x;");
        body(4, "d := @1_000;");
        body(4, "d := @T#;");
        body(4, "d := @T#MS;");
        body(4, "d := @T#5;");
        body(4, "d := @t#5D;");
        body(4, "d := @T#5MSX;");
        body(4, "d := @T#5AS;");
        body(4, "d := @T#5M5S;");
        body(4, "d := @T#5S1;");
        body(1, "d := t @#5MS;");
        body(1, "d := XT@#5MS;");
        body(1, "d := 16#1@#1;");
        body(6, "d := 1@.5;");
    }

    private static void places() {
        Bench.accepted("PROGRAM p VAR a AT %iX0 : BOOL; b AT %QX255 : BOOL; c AT %mx007 : BOOL; "
            + "d AT %IW63 : INT; g AT %IX199 : BOOL; e AT %qW0 : INT; f AT %MW1 : INT; END_VAR END_PROGRAM");
        String[] wrong = {"%", "%I", "%IX", "%XI1", "%IB1", "%IX256", "%QX99999999999999999999", "%MX256", "%IW64",
            "%QW64", "%MW64", "%IX1a", "%IX1_", "% IX1", "%IX 1", "%I"};
        for (String place : wrong) {
            Bench.refused(5, "PROGRAM p VAR a AT @" + place + " : BOOL; END_VAR END_PROGRAM");
        }
        Bench.refused(5, "@%IX256");
        Bench.refused(6, "@%IX255");
    }

    private static void signs() {
        body("z:=a<=b;z:=a>=b;z:=a<>b;z:=a<b;z:=a>b;z:=a=b;a:=a+b-c*a/b;z:=z&z;");
        body(6, "z := a <>@= b;");
        body(6, "CASE a OF 1 ..@. 2: END_CASE;");
        body(6, "a @: = 1;");
        body(6, "z := a < @= b;");
        for (char c : new char[] {'!', '"', '#', '$', '\'', '?', '@', '\\', '^', '`', '{', '}', '~', 127, 128, 255}) {
            String text = HEAD + c + TAIL;
            PlantKeeper x = new PlantKeeper();
            Bench.due("byte " + (int) c, Bench.load(x, text), 1);
            Bench.due("its place", x.count(1), HEAD.length());
        }
    }

    private static void grammarOfBlocks() {
        Bench.refused(6, "PROGRAM@");
        Bench.refused(6, "PROGRAM  \n@");
        Bench.refused(6, "PROGRAM p @");
        Bench.refused(6, "@p");
        Bench.refused(6, "@;");
        Bench.refused(6, "PROGRAM p END_PROGRAM @;");
        Bench.refused(6, "PROGRAM p @END_FUNCTION");
        Bench.refused(6, "FUNCTION f : INT @END_FUNCTION_BLOCK");
        Bench.refused(6, "FUNCTION f @INT END_FUNCTION");
        Bench.refused(6, "FUNCTION f : @TON END_FUNCTION");
        Bench.refused(6, "FUNCTION f : @ARRAY END_FUNCTION");
        Bench.refused(6, "FUNCTION_BLOCK f @: INT END_FUNCTION_BLOCK");
        Bench.refused(6, "PROGRAM p VAR a @INT; END_VAR END_PROGRAM");
        Bench.refused(6, "PROGRAM p VAR a : INT@, b : INT; END_VAR END_PROGRAM");
        Bench.refused(6, "PROGRAM p VAR a, @: INT; END_VAR END_PROGRAM");
        Bench.refused(6, "PROGRAM p VAR a AT @b : INT; END_VAR END_PROGRAM");
        Bench.refused(6, "PROGRAM p VAR a : @5; END_VAR END_PROGRAM");
        Bench.refused(6, "PROGRAM p VAR a : INT := @a; END_VAR END_PROGRAM");
        Bench.refused(6, "PROGRAM p VAR a : INT := -@TRUE; END_VAR END_PROGRAM");
        Bench.refused(6, "PROGRAM p VAR a : INT := -@-1; END_VAR END_PROGRAM");
        Bench.refused(6, "PROGRAM p VAR a : INT @END_VAR END_PROGRAM");
        Bench.refused(6, "PROGRAM p VAR @; END_VAR END_PROGRAM");
        Bench.refused(6, "PROGRAM p VAR a : ARRAY @( 1 .. 2) OF INT; END_VAR END_PROGRAM");
        Bench.refused(6, "PROGRAM p VAR a : ARRAY [1 @: 2] OF INT; END_VAR END_PROGRAM");
        Bench.refused(6, "PROGRAM p VAR a : ARRAY [1 .. 2] OF @TON; END_VAR END_PROGRAM");
        Bench.refused(6, "PROGRAM p VAR a : ARRAY [1 .. 2] @INT; END_VAR END_PROGRAM");
        Bench.refused(6, "PROGRAM p a := 1; @VAR END_VAR END_PROGRAM");
        Bench.accepted("PROGRAM p VAR END_VAR VAR END_VAR END_PROGRAM");
    }

    private static void grammarOfStatements() {
        body(";;; RETURN; IF z THEN END_IF; CASE a OF END_CASE; CASE a OF ELSE END_CASE; FOR a := -1 TO 1 BY -1 DO END_FOR;");
        body("CASE a OF -1 .. 2, 5: -1: 7: a := 1; ELSE a := 2; END_CASE; t(); t(IN := z, PT := 1);");
        body("IF z THEN ; ELSIF NOT z THEN RETURN; ELSIF z THEN ELSE ; END_IF;");
        body(6, "a @;");
        body(6, "a @= 1;");
        body(6, "a := @;");
        body(6, "a := 1 @END_PROGRAM;");
        body(6, "a := 1 + @;");
        body(6, "a := 1 @2;");
        body(6, "a := (1@;");
        body(6, "a := 1@);");
        body(6, "a := r[1@;");
        body(6, "a := r[@];");
        body(6, "a@.b := 1;");
        body(6, "a := t.@1;");
        body(6, "a := ABS(@,);");
        body(6, "a := ABS(1,@);");
        body(6, "t(@1);");
        body(6, "t(IN @= z);");
        body(6, "t(IN := z,@);");
        body(6, "t(IN := z@;");
        body(6, "t()@END_PROGRAM;");
        body(6, "IF z @a := 1; END_IF;");
        body(6, "IF z THEN a := 1; END_IF @RETURN;");
        body(6, "IF z THEN ELSE @ELSIF z THEN END_IF;");
        body(6, "IF z THEN ELSE ; @ELSE END_IF;");
        body(6, "CASE a OF @b: END_CASE;");
        body(6, "CASE a OF 1 @END_CASE;");
        body(6, "CASE a OF 1, @: END_CASE;");
        body(6, "CASE a OF ELSE @1: END_CASE;");
        body(6, "CASE a OF 1: @TO END_CASE;");
        body(6, "FOR @1 := 1 TO 2 DO END_FOR;");
        body(6, "FOR a := @b TO 2 DO END_FOR;");
        body(6, "FOR a := 1 @DO END_FOR;");
        body(6, "FOR a := 1 TO 2 @a := 1; END_FOR;");
        body(6, "FOR a := 1 TO 2 BY @DO END_FOR;");
        body(6, "EXIT @a;");
        body(6, "@1;");
        body(6, ";@LADDER END_LADDER");
        body(6, "LADDER END_LADDER @;");
    }

    private static void grammarOfLadders() {
        body("LADDER END_LADDER");
        body("LADDER RUNG z; END_RUNG RUNG /z >z <z t.q /t.q - * (z); END_RUNG END_LADDER");
        body("LADDER RUNG z|z (/z); * - (+z); * - (-z); END_RUNG END_LADDER");
        body(6, "LADDER @z; END_LADDER");
        body(6, "LADDER RUNG @END_RUNG END_LADDER");
        body(6, "LADDER RUNG z @END_RUNG END_LADDER");
        body(6, "LADDER RUNG @| z; END_RUNG END_LADDER");
        body(6, "LADDER RUNG z | @; END_RUNG END_LADDER");
        body(6, "LADDER RUNG z | @| z; END_RUNG END_LADDER");
        body(6, "LADDER RUNG / @/ z; END_RUNG END_LADDER");
        body(6, "LADDER RUNG / @- z; END_RUNG END_LADDER");
        body(6, "LADDER RUNG @<> z; END_RUNG END_LADDER");
        body(6, "LADDER RUNG z.@; END_RUNG END_LADDER");
        body(6, "LADDER RUNG (@>z); END_RUNG END_LADDER");
        body(6, "LADDER RUNG (z@.q); END_RUNG END_LADDER");
        body(6, "LADDER RUNG (z@; END_RUNG END_LADDER");
        body(6, "LADDER RUNG @1; END_RUNG END_LADDER");
        body(6, "LADDER RUNG z; @; END_RUNG END_LADDER");
        body(2, "LADDER RUNG z @(*z); END_RUNG END_LADDER");
    }

    private static void firstFault() {
        Bench.refused(6, "PROGRAM @; $");
        Bench.refused(1, "PROGRAM @$ ;");
        Bench.refused(6, "PROGRAM p @TO 99999999999");
        Bench.refused(4, "PROGRAM p @99999999999 TO");
        // Reading comes before all rules.
        Bench.refused(6, "PROGRAM p q := nothing; END_PROGRAM @x");
        Bench.refused(20, "PROGRAM p @q := nothing; END_PROGRAM");
    }

    private static String times(int n, String text) {
        return text.repeat(n);
    }

    private static void depth() {
        body("a := " + times(60, "(") + "a" + times(60, ")") + ";");
        body(7, "a := " + times(60, "(") + "@(a" + times(61, ")") + ";");
        body(6, "a := " + times(60, "(") + "@)" + times(61, ")") + ";");
        body("a := " + times(60, "-") + "a;");
        body(7, "a := " + times(60, "-") + "@-a;");
        body(7, "a := " + times(60, "NOT ") + "@NOT a;");
        body("a := a" + times(60, "+a") + "; a := a" + times(60, "+a") + ";");
        body(7, "a := a" + times(60, "+a") + "@+a;");
        body(7, "z := z" + times(60, " AND z") + " @XOR z;");
        body(4, "a := a" + times(60, "+a") + " @1a;");
        body(1, "a := a" + times(60, "+a") + "@$;");
        // Signs within ( ) stay open until the outermost expression ends; '-' and ( do not.
        body("a := (" + "a" + times(59, "+a") + ");");
        body(7, "a := (" + "a" + times(59, "+a") + "@+a);");
        body("a := (" + "a" + times(59, "+a") + ")+a;");
        body(7, "a := (" + "a" + times(59, "+a") + ")+a@+a;");
        body("a := -a" + times(60, "-a") + ";");
        body(7, "a := " + "(a+(a+a))" + times(58, "+a") + "@+a;");
        body(7, "a := r[a" + times(30, "+a") + "]" + times(30, "+a") + "@+a;");
        body(7, "a := MAX(a" + times(30, "+a") + ", a" + times(29, "+a") + "@+a);");
        body(7, "a := MAX(a" + times(30, "+a") + ", a" + times(29, "+a") + ")+a@+a;");
        // The index of what is assigned, and each parameter, are expressions of their own.
        body("r[a" + times(59, "+a") + "] := a" + times(60, "+a") + ";");
        body(7, "r[a" + times(59, "+a") + "@+a] := a;");
        body("t(IN := z, PT := d" + times(59, "+d") + "); t(PT := d" + times(59, "+d") + ", IN := z" + times(59, "&z") + ");");
        body(7, "t(PT := d" + times(59, "+d") + "@+d);");
        body("IF z THEN IF z" + times(58, "&z") + " THEN END_IF; END_IF;");
        body(7, "IF z THEN IF z" + times(58, "&z") + "@&z THEN END_IF; END_IF;");
        body(7, "IF z THEN ELSIF z" + times(59, "&z") + "@&z THEN END_IF;");
        String ifs = times(20, "IF z THEN ") + times(20, "CASE a OF 1: ") + times(19, "IF z THEN ELSE ");
        String ends = times(19, " END_IF;") + times(20, " END_CASE;") + times(20, " END_IF;");
        body(ifs + "FOR b := 1 TO 2 DO END_FOR; IF z THEN END_IF; c := -c; r[1] := 1;" + ends);
        body(7, ifs + "FOR b := 1 TO 2 DO c := @-c; END_FOR;" + ends);
        body(7, ifs + "c := c + c @+ c;" + ends);
        body(7, ifs + "IF z THEN @IF z THEN END_IF; END_IF;" + ends);
        body(7, ifs + "IF z THEN @CASE c OF END_CASE; END_IF;" + ends);
        body(7, ifs + "IF z THEN @FOR c := 1 TO 2 DO END_FOR; END_IF;" + ends);
        body(7, ifs + "IF z THEN t@(); END_IF;" + ends);
        body(7, ifs + "IF z THEN r@[1] := 1; END_IF;" + ends);
        body(7, ifs + "IF z THEN c := r@[1]; END_IF;" + ends);
        body(7, ifs + "IF z THEN c := ABS@(1); END_IF;" + ends);
        body(ifs + "CASE c OF -1 .. -1: END_CASE; FOR b := -2 TO -1 BY -1 DO END_FOR;" + ends);
        // Cells of a ladder are never open.
        body("LADDER RUNG " + times(70, "- - - - (z);").substring(0, 12 * 12) + " END_RUNG END_LADDER");
    }
}
