/** Promise 4, coding and proving: CELLS, CODE and LOADING, faults 50 to 53; counts 2 to 4. */
public final class LoadingTest {
    private static final String HEAD = "PROGRAM p VAR a, b : INT; d, e : DINT; z, y : BOOL; r : ARRAY [0 .. 3] OF INT; t : TON; END_VAR ";
    private static final int CELLS = 960 + 2 + 2 + 2 + 4 + 6;

    public static void main(String[] args) {
        cells();
        statements();
        expressions();
        functions();
        ladders();
        bounds();
        tooMuch();
        stack();
        budget();
        Bench.finish("LoadingTest");
    }

    /** A text is due to load with this bound, so many instructions and cells. */
    private static void loaded(String text, int bound, int instructions, int cells) {
        PlantKeeper x = Bench.loaded(text);
        Bench.due("bound of " + text, x.count(2), bound);
        Bench.due("instructions of " + text, x.count(3), instructions);
        Bench.due("cells of " + text, x.count(4), cells);
    }

    private static void body(String text, int bound, int instructions, int more) {
        loaded(HEAD + text + " END_PROGRAM", bound, instructions, CELLS + more);
    }

    private static void code(String text, int instructions) {
        body(text, instructions, instructions, 0);
    }

    private static void cells() {
        loaded("PROGRAM p END_PROGRAM", 0, 0, 960);
        loaded("PROGRAM p VAR a AT %MW3 : INT; END_VAR END_PROGRAM", 0, 0, 960);
        loaded("PROGRAM p VAR a : INT; b : ARRAY [-3 .. 3] OF BOOL; END_VAR END_PROGRAM", 0, 0, 968);
        loaded("PROGRAM p VAR a : TON; b : TOF; c : TP; d : CTU; e : CTD; END_VAR END_PROGRAM", 0, 0, 990);
        loaded("PROGRAM p VAR a : R_TRIG; b : F_TRIG; c : SR; d : RS; END_VAR END_PROGRAM", 0, 0, 972);
        loaded("PROGRAM p LADDER END_LADDER END_PROGRAM", 0, 0, 1116);
        loaded("FUNCTION f : INT VAR_INPUT a : INT; END_VAR END_FUNCTION PROGRAM p END_PROGRAM", 0, 2, 962);
        loaded("FUNCTION_BLOCK f VAR a, b : INT; END_VAR END_FUNCTION_BLOCK PROGRAM p END_PROGRAM", 0, 0, 960);
        loaded("FUNCTION_BLOCK f VAR_INPUT a : INT; END_VAR VAR b : TON; END_VAR CASE a OF END_CASE; END_FUNCTION_BLOCK "
            + "FUNCTION_BLOCK g VAR x, y : f; END_VAR LADDER RUNG - -; END_RUNG END_LADDER END_FUNCTION_BLOCK "
            + "PROGRAM p VAR c : g; d : f; END_VAR END_PROGRAM", 0, 6, 960 + 2 * 8 + 156 + 8);
        loaded("PROGRAM p VAR a : BOOL; END_VAR LADDER RUNG a /a >a <a; END_RUNG END_LADDER END_PROGRAM",
            4 + 5 + 9 + 9, 27, 961 + 2 + 156);
    }

    private static void statements() {
        code(";", 0);
        code("a := 1;", 2);
        code("r[a] := b;", 3);
        code("t();", 1);
        code("t(IN := z, PT := d + 1);", 7);
        code("RETURN;", 1);
        code("IF z THEN END_IF;", 2);
        body("IF z THEN a := 1; ELSE b := a; END_IF;", 5, 7, 0);
        body("IF z THEN a := 1; ELSE b := a + a; END_IF;", 6, 9, 0);
        body("IF z THEN ELSIF y THEN ELSE END_IF;", 5, 6, 0);
        body("IF z THEN ELSIF y THEN END_IF;", 4, 5, 0);
        body("CASE a OF END_CASE;", 2, 2, 1);
        body("CASE a OF ELSE b := 1; END_CASE;", 4, 4, 1);
        body("CASE a OF 1: END_CASE;", 6, 6, 1);
        body("CASE a OF 1: ELSE END_CASE;", 7, 7, 1);
        body("CASE a OF 1 .. 5: END_CASE;", 10, 10, 1);
        body("CASE a OF 1, 2, 3 .. 4: END_CASE;", 2 + 3 + 4 + 8 + 1, 18, 1);
        body("CASE a OF 1: b := 1; 2: b := a + a; END_CASE;", 2 + 4 + 4 + 4, 2 + 4 + 2 + 1 + 4 + 4, 1);
        body("FOR a := 1 TO 20 DO END_FOR;", 3 + 20 * 6 + 1, 9, 1);
        body("FOR a := 1 TO 0 DO END_FOR;", 4, 9, 1);
        body("FOR a := 7 TO 7 DO END_FOR;", 3 + 6 + 1, 9, 1);
        body("FOR a := 7 TO 7 BY -1 DO END_FOR;", 3 + 6 + 1, 9, 1);
        body("FOR a := 7 TO 8 BY 2 DO END_FOR;", 3 + 6 + 1, 9, 1);
        body("FOR a := 7 TO 9 BY 2 DO END_FOR;", 3 + 2 * 6 + 1, 9, 1);
        body("FOR a := 10 TO 1 BY -3 DO b := a; END_FOR;", 3 + 4 * 8 + 1, 11, 1);
    }

    private static void expressions() {
        code("d := d + e * d;", 6);
        code("a := r[a + 1];", 5);
        code("d := t.et;", 2);
        code("a := -a; a := NOT a; z := NOT z;", 9);
        code("a := ABS(a);", 3);
        code("a := MIN(a, b); a := MAX(a, b); a := SHL(a, b); a := SHR(a, b);", 16);
        code("a := LIMIT(a, b, a);", 6);
        code("a := SEL(z, a, b);", 5);
        code("a := TO_INT(d); d := TO_DINT(a); z := TO_BOOL(a);", 8);
        // Constants are folded, but for a quotient by 0.
        code("a := 1 + 2 * (3 - ABS(-4)) / 5 MOD 6; z := NOT (1 < 2) OR TRUE;", 4);
        code("a := LIMIT(1, 2, 3) + SEL(TRUE, 1, 2) + SHL(1, 2) + TO_INT(T#1H); d := TO_DINT(1) + MAX(1, 70000);", 4);
        code("a := 1 + 2 + a;", 4);
        code("a := a + 1 + 2;", 6);
        code("a := 1 / 0;", 4);
        code("a := 1 / (2 - 2) + (3 + 4);", 6);
        code("a := 1 MOD 0;", 4);
        code("a := 0 / 1;", 2);
    }

    private static void functions() {
        String f = "FUNCTION f : INT VAR_INPUT i, j : INT; END_VAR VAR v, w : INT := 5; x : BOOL; END_VAR f := i; END_FUNCTION ";
        // PUSH, STORE for f, v, w, x and the body's two; in the PROGRAM PUSH, PUSH, WRITE, WRITE, CALL, READ, STORE.
        loaded(f + "PROGRAM p VAR a : INT; END_VAR a := f(1, 2); END_PROGRAM", 7 + 10, 10 + 7, 961 + 6);
        loaded(f + "PROGRAM p VAR a : INT; END_VAR a := f(f(1, 2), 2); END_PROGRAM", 12 + 20, 10 + 12, 961 + 6);
        String g = "FUNCTION_BLOCK g VAR_INPUT i : INT; END_VAR VAR v : INT; END_VAR v := i; END_FUNCTION_BLOCK ";
        loaded(g + "PROGRAM p VAR k, l : g; END_VAR k(i := 1); l(); END_PROGRAM", 4 + 4, 2 + 4, 964);
    }

    private static void rungs(String text, int instructions, int edges) {
        body("LADDER " + text + " END_LADDER", instructions, instructions, edges + 156);
    }

    private static void ladders() {
        rungs("RUNG z; END_RUNG", 4, 0);
        rungs("RUNG /z; END_RUNG", 5, 0);
        rungs("RUNG >z; END_RUNG", 9, 1);
        rungs("RUNG <t.q; END_RUNG", 9, 1);
        rungs("RUNG -; END_RUNG", 2, 0);
        rungs("RUNG *; END_RUNG", 2, 0);
        rungs("RUNG (z); END_RUNG", 2, 0);
        rungs("RUNG (/z); END_RUNG", 3, 0);
        rungs("RUNG (+z); END_RUNG", 4, 0);
        rungs("RUNG (-z); END_RUNG", 5, 0);
        rungs("RUNG - (z); - y; END_RUNG", 2 + 2 + 4 + 2, 0);
        rungs("RUNG - | (z); - (y); END_RUNG", 4 + 2 + 2, 0);
        rungs("RUNG * | (z); * (y); END_RUNG", 2 + 2 + 2, 0);
        rungs("RUNG - | - (z); * - *; END_RUNG", 2 + 2 + 2 + 2 + 2, 0);
    }

    private static void bounds() {
        String exit = "IF z THEN EXIT; END_IF; ";
        // A round: NEXT, LOAD, UNLESS, LOAD, PUSH, TWO, STORE, BACK; the last one can be left by GO.
        body("FOR a := 1 TO 10 DO " + exit + "END_FOR;", 3 + 10 * 8 + 1, 12, 1);
        // NEXT, LOAD, UNLESS, eight instructions and GO are more than a round.
        body("FOR a := 1 TO 10 DO IF z THEN b := a + a * a; b := a; EXIT; END_IF; END_FOR;", 3 + 9 * 8 + 12, 20, 1);
        // A loop that is always left goes once.
        body("FOR a := 1 TO 10 DO EXIT; END_FOR; b := 1;", 3 + 2 + 2, 12, 1);
        body("FOR a := 1 TO 10 DO RETURN; END_FOR; b := 1; b := 1;", 3 + 2, 14, 1);
        body("FOR a := 1 TO 0 DO RETURN; END_FOR; b := 1; b := 1;", 3 + 1 + 4, 14, 1);
        body("IF z THEN RETURN; END_IF; b := 1;", 2 + 2, 5, 0);
        body("IF z THEN b := 1; b := 1; RETURN; END_IF; b := 1;", 2 + 5, 9, 0);
        body("RETURN; b := 1;", 1, 3, 0);
        body("FOR a := 1 TO 3 DO FOR b := 1 TO 4 DO END_FOR; END_FOR;", 3 + 3 * (1 + 3 + 4 * 6 + 1 + 5) + 1, 18, 2);
        body("FOR a := 1 TO 3 DO FOR b := 1 TO 4 DO EXIT; END_FOR; END_FOR;", 3 + 3 * (1 + 3 + 2 + 5) + 1, 19, 2);
        body("FOR a := 1 TO 3 DO FOR b := 1 TO 4 DO RETURN; END_FOR; END_FOR;", 3 + 1 + 3 + 2, 19, 2);
        // RETURN in the last round: two whole ones, NEXT, LOAD, UNLESS, PUSH, STORE (eleven times), LEAVE.
        StringBuilder eleven = new StringBuilder();
        for (int i = 0; i < 11; i++) {
            eleven.append("d := 1; ");
        }
        body("FOR a := 1 TO 3 DO IF z THEN " + eleven + "RETURN; END_IF; END_FOR;", 3 + 2 * 8 + 1 + 2 + 22 + 1, 12 + 22, 1);
        String exits = "FOR a := 1 TO 3 DO IF z THEN " + eleven + "EXIT; END_IF; END_FOR; e := 1;";
        body(exits, 3 + 2 * 8 + 1 + 2 + 22 + 1 + 2, 14 + 22, 1);
        PlantKeeper x = Bench.loaded(HEAD + exits + " END_PROGRAM");
        Bench.due("a scan below the bound", x.scan(1), 3 + 3 * 8 + 1 + 2);
        Bench.due("above the bound", x.count(7), 0);
    }

    private static void tooMuch() {
        StringBuilder sixteen = new StringBuilder();
        for (int i = 0; i < 15; i++) {
            sixteen.append("FUNCTION_BLOCK b").append(i).append(" END_FUNCTION_BLOCK ");
        }
        Bench.accepted(sixteen + "PROGRAM p END_PROGRAM");
        Bench.refused(50, "@ " + sixteen + "FUNCTION f : INT END_FUNCTION PROGRAM p END_PROGRAM");
        String many = "a:=1;".repeat(1999);
        loaded("PROGRAM p VAR a:INT;END_VAR " + many + "a:=a;END_PROGRAM", 4000, 4000, 961);
        loaded("FUNCTION f:INT END_FUNCTION PROGRAM p VAR a:INT;END_VAR " + many + "END_PROGRAM", 3998, 4000, 962);
        Bench.refused(50, "@ PROGRAM p VAR a:INT;END_VAR " + many + "a:=a;RETURN;END_PROGRAM");
        Bench.refused(50, "@ FUNCTION f:INT END_FUNCTION PROGRAM p VAR a:INT;END_VAR " + many + "RETURN;END_PROGRAM");
        Bench.refused(20, "PROGRAM p VAR a:INT;END_VAR " + many + "a:=a;RETURN;@q:=1;END_PROGRAM");
    }

    private static String nested(int calls, String inner) {
        return "f(1, 2, 3, 4, 5, 6, 7, ".repeat(calls) + inner + ")".repeat(calls);
    }

    private static void stack() {
        String f = "FUNCTION f : INT VAR_INPUT a, b, c, d, e, g, h, i : INT; END_VAR f := i; END_FUNCTION ";
        String head = f + "@PROGRAM p VAR x, n : INT; END_VAR ";
        String accepted = head.replace("@", "");
        // 9 * 7 and one number are 64, one more is too much.
        PlantKeeper x = Bench.loaded(accepted + "x := " + nested(9, "8") + "; END_PROGRAM");
        Bench.due("scan", x.scan(1), 9 * (7 + 8 + 2 + 4) + 2);
        Bench.watched(x, "x", 1, 8);
        Bench.refused(51, head + "x := " + nested(9, "x + x") + "; END_PROGRAM");
        Bench.refused(51, head + "IF x = 1 THEN x := " + nested(10, "1") + "; END_IF; END_PROGRAM");
        Bench.refused(51, head + "FOR x := 1 TO 0 DO n := " + nested(10, "1") + "; END_FOR; END_PROGRAM");
        Bench.refused(51, head + "FOR x := 1 TO 9 DO RETURN; END_FOR; n := " + nested(10, "1") + "; END_PROGRAM");
        Bench.refused(51, head + "IF TRUE THEN RETURN; END_IF; n := " + nested(10, "1") + "; END_PROGRAM");
        // What can't be come to is not counted.
        Bench.accepted(accepted + "RETURN; x := " + nested(10, "1") + "; END_PROGRAM");
        Bench.accepted(accepted + "IF x = 1 THEN RETURN; ELSE RETURN; END_IF; x := " + nested(10, "1") + "; END_PROGRAM");
        Bench.accepted(accepted + "FOR x := 1 TO 2 DO EXIT; n := " + nested(10, "1") + "; END_FOR; END_PROGRAM");
        // The first unit is told.
        String g = "FUNCTION g : INT g := " + nested(10, "1") + "; END_FUNCTION ";
        Bench.refused(51, f + "@" + g + "PROGRAM p VAR x : INT; END_VAR x := " + nested(10, "1") + "; END_PROGRAM");
        // What a unit lays on top of another one's numbers has room.
        String h = "FUNCTION h : INT h := " + nested(9, "7") + "; END_FUNCTION ";
        PlantKeeper y = Bench.loaded(f + h + "PROGRAM p VAR x : INT; END_VAR x := " + nested(9, "h()") + "; END_PROGRAM");
        Bench.due("scan", y.scan(1) > 0 ? 1 : 0, 1);
        Bench.watched(y, "x", 1, 7);
    }

    private static void budget() {
        String loop = "FOR a := 1 TO 1000 DO FOR b := 1 TO 1000 DO %s END_FOR; END_FOR; ";
        String vars = " VAR a, b, c, d : INT; END_VAR ";
        // 1000 * (1000 * n + some): above 1,000,000,000 with a loop of 200 within.
        String far = loop.formatted("FOR c := 1 TO 200 DO END_FOR;");
        String near = loop.formatted("FOR c := 1 TO 150 DO END_FOR;");
        Bench.refused(52, " @FUNCTION f : INT " + vars + far + "END_FUNCTION PROGRAM p END_PROGRAM");
        Bench.accepted(" FUNCTION f : INT " + vars + near + "END_FUNCTION PROGRAM p END_PROGRAM");
        Bench.refused(52, " @FUNCTION_BLOCK f " + vars + far + "END_FUNCTION_BLOCK PROGRAM p END_PROGRAM");
        Bench.refused(52, " @PROGRAM p " + vars + far + "END_PROGRAM");
        Bench.refused(53, " @PROGRAM p " + vars + near + "END_PROGRAM");
        Bench.refused(53, " FUNCTION f : INT " + vars + near + "END_FUNCTION @PROGRAM p " + vars + "a := f(); END_PROGRAM");
        Bench.refused(52, " FUNCTION f : INT " + vars + near + "END_FUNCTION @PROGRAM p " + vars + "a := f() + f(); END_PROGRAM");
        Bench.refused(52, "@PROGRAM p VAR a, b, c, d, e, f, g, h : DINT; END_VAR " + "FOR a := 1 TO 1000000 DO FOR b := 1 TO 1000000 DO "
            + "FOR c := 1 TO 1000000 DO FOR d := 1 TO 1000000 DO FOR e := 1 TO 1000000 DO FOR f := 1 TO 1000000 DO "
            + "END_FOR; ".repeat(6) + "END_PROGRAM");
        String hundred = "PROGRAM p VAR a : INT; END_VAR " + "a := 1; ".repeat(50) + "%sEND_PROGRAM";
        Bench.refused(0, hundred.formatted(""), 100);
        Bench.refused(53, " @" + hundred.formatted("RETURN; "), 100);
        Bench.refused(0, hundred.formatted("RETURN; "), 101);
        PlantKeeper x = new PlantKeeper();
        Bench.tape(x, hundred.formatted(""));
        Bench.due("budget 99", x.load(99), PlantKeeper.BAD);
        Bench.due("budget 100001", x.load(100001), PlantKeeper.BAD);
        Bench.due("budget -1", x.load(-1), PlantKeeper.BAD);
        Bench.due("budget 100", x.load(100), 0);
    }
}
