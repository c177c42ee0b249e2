import java.util.Random;
import java.util.TreeSet;

/** Promise 4, LOADING: faults 50 to 53 on both sides, their order; bounds found by going all ways through small units. */
public final class LoadEdgesTest {
    private static final String EIGHT = "FUNCTION f : INT VAR_INPUT a, b, c, d, e, g, h, i : INT; END_VAR f := i; END_FUNCTION ";

    public static void main(String[] args) {
        sixteenBlocks();
        fourThousandInstructions();
        sixtyFourNumbers();
        stackBehindEachInstruction();
        whatCanBeComeTo();
        timesOfLoops();
        oneThousandMillionSteps();
        budgets();
        orderOfFaults();
        cellsSideBySide();
        allWays();
        Bench.finish("LoadEdgesTest");
    }

    private static String blocks(int n) {
        StringBuilder all = new StringBuilder();
        for (int i = 0; i < n; i++) {
            all.append(i % 2 == 0 ? "FUNCTION n" + i + " : INT END_FUNCTION " : "FUNCTION_BLOCK n" + i + " END_FUNCTION_BLOCK ");
        }
        return all.toString();
    }

    /** "50 (place 0): there are more than 16 blocks" */
    private static void sixteenBlocks() {
        for (int n = 14; n <= 17; n++) {
            Bench.refused(n + 1 > 16 ? 50 : 0, (n + 1 > 16 ? "@ " : " ") + blocks(n) + "PROGRAM p END_PROGRAM");
        }
        PlantKeeper x = Bench.loaded(blocks(15) + "PROGRAM p VAR a : INT; END_VAR a := n14(); END_PROGRAM");
        Bench.due("the last FUNCTION is called", x.scan(1), 5);
        // Rules come before it.
        Bench.refused(20, blocks(40) + "PROGRAM p @x := 1; END_PROGRAM");
        Bench.refused(10, "@" + blocks(40));
    }

    /** "or more than 4,000 instructions in all" */
    private static void fourThousandInstructions() {
        String head = "PROGRAM p VAR a:INT;t:TON;END_VAR ";
        String most = "a:=1;".repeat(1999) + "t();t();";
        PlantKeeper x = Bench.loaded(head + most + "END_PROGRAM");
        Bench.due("instructions", x.count(3), 4000);
        Bench.due("steps", x.scan(1), 4000);
        // The last one of them does what it is told to: PUT, and BLOCK.
        PlantKeeper w = Bench.loaded("PROGRAM p VAR a:INT;r:ARRAY[5..9] OF INT;t:TON;END_VAR " + "a:=1;".repeat(1998) + "t();r[7]:=a;END_PROGRAM");
        Bench.due("instructions", w.count(3), 4000);
        Bench.due("steps", w.scan(1), 4000);
        Bench.watched(w, "r[7]", 1, 1);
        PlantKeeper v = Bench.loaded("PROGRAM p VAR a:INT;q:R_TRIG;z:BOOL:=TRUE;END_VAR " + "a:=1;".repeat(1998) + "q();q(CLK:=z);END_PROGRAM");
        Bench.due("instructions", v.count(3), 4000);
        Bench.due("steps", v.scan(1), 4000);
        Bench.watched(v, "q.q", 0, 1);
        PlantKeeper y = Bench.loaded(head + "a:=1;".repeat(1999) + "t();END_PROGRAM");
        Bench.due("instructions", y.count(3), 3999);
        Bench.refused(50, "@" + head + most + "t();END_PROGRAM");
        Bench.refused(50, "@ " + head + most + "a:=1;END_PROGRAM");
        // Of all units together; what can't be come to counts, too.
        String fb = "FUNCTION_BLOCK f VAR a:INT;END_VAR RETURN;" + "a:=1;".repeat(999) + "END_FUNCTION_BLOCK ";
        Bench.refused(0, fb + head + "RETURN;" + "a:=1;".repeat(1000) + "END_PROGRAM");
        Bench.refused(50, "@ " + fb + head + "RETURN;" + "a:=1;".repeat(1000) + "t();END_PROGRAM");
        // The budget is asked behind it.
        Bench.refused(50, "@ " + head + most + "t();END_PROGRAM", 100);
        Bench.refused(53, " @" + head + most + "END_PROGRAM", 100);
    }

    private static String nested(int calls, String inner) {
        return "f(1, 2, 3, 4, 5, 6, 7, ".repeat(calls) + inner + ")".repeat(calls);
    }

    /** Numbers that lie on the stack: seven for each call, and those of what is within. */
    private static String high(int numbers) {
        int calls = (numbers - 1) / 7;
        int rest = numbers - 7 * calls;
        // x + (x + (x ..)) lays one number more for each bracket.
        return nested(calls, "x + (".repeat(rest - 1) + "x" + ")".repeat(rest - 1));
    }

    /** "51: more than 64 numbers would lie on the stack" */
    private static void sixtyFourNumbers() {
        for (int n = 62; n <= 66; n++) {
            boolean good = n <= 64;
            String mark = good ? "" : "@";
            Bench.refused(good ? 0 : 51, EIGHT + mark + "PROGRAM p VAR x : INT; END_VAR x := " + high(n) + "; END_PROGRAM");
            Bench.refused(good ? 0 : 51, EIGHT + mark + "FUNCTION g : INT VAR x : INT; END_VAR x := " + high(n) + "; END_FUNCTION PROGRAM p END_PROGRAM");
            Bench.refused(good ? 0 : 51, EIGHT + mark + "FUNCTION_BLOCK g VAR x : INT; END_VAR x := " + high(n) + "; END_FUNCTION_BLOCK PROGRAM p END_PROGRAM");
            // An index lies below the expression.
            Bench.refused(n <= 63 ? 0 : 51, EIGHT + (n <= 63 ? "" : "@") + "PROGRAM p VAR x : INT; r : ARRAY [0 .. 1] OF INT; END_VAR r[x] := " + high(n) + "; END_PROGRAM");
            Bench.refused(good ? 0 : 51, EIGHT + mark + "PROGRAM p VAR x : INT; t : TON; END_VAR t(PT := " + high(n) + "); END_PROGRAM");
            Bench.refused(good ? 0 : 51, EIGHT + mark + "PROGRAM p VAR x : INT; END_VAR IF " + high(n) + " = 1 THEN END_IF; END_PROGRAM");
        }
        // Constants are one number.
        Bench.accepted(EIGHT + "PROGRAM p VAR x : INT; END_VAR x := " + nested(9, "1 + (2 + (3 + 4))") + "; END_PROGRAM");
        PlantKeeper x = Bench.loaded(EIGHT + "PROGRAM p VAR x : INT := 3; END_VAR x := " + high(64) + "; END_PROGRAM");
        x.scan(0);
        Bench.watched(x, "x", 1, 3);
        // What a unit lays on top is not counted: the highest stack of all units, one on top of the other.
        StringBuilder all = new StringBuilder(EIGHT);
        String inner = "x";
        for (int i = 0; i < 14; i++) {
            all.append("FUNCTION g").append(i).append(" : INT VAR_INPUT x : INT; END_VAR g").append(i).append(" := ").append(nested(9, inner)).append("; END_FUNCTION ");
            inner = "g" + i + "(x)";
        }
        PlantKeeper y = Bench.loaded(all + "PROGRAM p VAR x : INT := 77; END_VAR x := " + nested(9, inner) + "; END_PROGRAM");
        Bench.due("steps", y.scan(0) > 2000 ? 1 : 0, 1);
        Bench.watched(y, "x", 1, 77);
    }

    /** Each instruction takes as many numbers off as it is told to: behind it 64 go on the stack, 65 don't. */
    private static void stackBehindEachInstruction() {
        String[] before = {"x := 1;", "x := r[x];", "r[x] := x;", "r[x] := r[x];", "x := f(x, x, x, x, x, x, x, x);", "x := -x;", "x := NOT x;", "x := ABS(x);", "x := x * x;", "x := SEL(z, x, x);", "x := LIMIT(x, x, x);",
            "x := SHL(x, x);", "d := TO_DINT(x);", "x := TO_INT(d);", "IF z THEN END_IF;", "IF z THEN ELSE END_IF;", "IF z THEN ; ELSIF z THEN ; ELSE END_IF;", "IF z THEN RETURN; END_IF;", "CASE x OF END_CASE;",
            "CASE x OF 1: END_CASE;", "CASE x OF 1, 2 .. 3: ELSE END_CASE;", "FOR n := 1 TO 2 DO END_FOR;", "FOR n := 1 TO 2 DO EXIT; END_FOR;", "FOR n := 1 TO 0 DO x := 1; END_FOR;",
            "FOR n := 1 TO 2 DO IF z THEN EXIT; END_IF; END_FOR;", "t();", "t(IN := z, PT := d);", "k();", "k(i := x);", "x := k.o;"};
        String head = EIGHT + "FUNCTION_BLOCK g VAR_INPUT i : INT; END_VAR VAR_OUTPUT o : INT; END_VAR END_FUNCTION_BLOCK ";
        String vars = "PROGRAM p VAR x, n : INT; d : DINT; z : BOOL; r : ARRAY [0 .. 1] OF INT; t : TON; k : g; END_VAR ";
        for (String text : before) {
            for (int times : new int[] {1, 3}) {
                Bench.accepted(head + vars + text.repeat(times) + " x := " + high(64) + "; END_PROGRAM");
                Bench.refused(51, head + "@" + vars + text.repeat(times) + " x := " + high(65) + "; END_PROGRAM");
            }
        }
        // Within an expression, with sixty-two numbers below.
        String[] inner = {"r[x]", "-x", "NOT x", "ABS(x)", "TO_INT(x)"};
        for (String text : inner) {
            Bench.accepted(head + vars + "x := " + nested(8, "f(" + text + ", " + text + ", 3, 4, 5, 6, 7, " + text + ")") + "; END_PROGRAM");
            Bench.refused(51, head + "@" + vars + "x := " + nested(9, "x + " + text) + "; END_PROGRAM");
            Bench.accepted(head + vars + "x := " + nested(9, text) + "; END_PROGRAM");
        }
        Bench.accepted(head + vars + "x := " + nested(8, "x + (x + (x + (x + (SEL(z, x, x) + x))))") + "; END_PROGRAM");
        Bench.accepted(head + vars + "x := " + nested(8, "x + (x + (x + (x + (x + SEL(z, x, x)))))") + "; END_PROGRAM");
        Bench.refused(51, head + "@" + vars + "x := " + nested(8, "x + (x + (x + (x + (x + (x + SEL(z, x, x))))))") + "; END_PROGRAM");
        Bench.accepted(head + vars + "x := " + nested(8, "SEL(z, x, x) + (x + (x + (x + (x + (x + (x + x))))))") + "; END_PROGRAM");
        Bench.refused(51, head + "@" + vars + "x := " + nested(8, "SEL(z, x, x) + (x + (x + (x + (x + (x + (x + (x + x)))))))") + "; END_PROGRAM");
    }

    /** "behind one of its instructions that can be come to (of a loop its body, whatever its COUNT, and what is behind it)" */
    private static void whatCanBeComeTo() {
        String head = EIGHT + "@PROGRAM p VAR x, n, m : INT; z : BOOL; END_VAR ";
        String deep = "n := " + high(65) + "; ";
        String[] come = {"%s", "IF z THEN %s END_IF;", "IF z THEN ELSE %s END_IF;", "IF FALSE THEN %s END_IF;", "IF z THEN RETURN; END_IF; %s", "IF TRUE THEN RETURN; END_IF; %s",
            "FOR m := 1 TO 0 DO %s END_FOR;", "FOR m := 1 TO 2 DO RETURN; END_FOR; %s", "FOR m := 1 TO 2 DO EXIT; END_FOR; %s", "FOR m := 1 TO 2 DO IF z THEN EXIT; END_IF; %s END_FOR;",
            "CASE n OF 1: %s END_CASE;", "CASE n OF 1: RETURN; ELSE %s END_CASE;", "CASE n OF 1: RETURN; END_CASE; %s", "IF z THEN RETURN; ELSIF z THEN ; ELSE RETURN; END_IF; %s",
            "CASE n OF 1: ; ELSE RETURN; END_CASE; %s", "FOR m := 1 TO 2 DO FOR x := 1 TO 2 DO EXIT; END_FOR; %s END_FOR;", "FOR m := 1 TO 0 DO RETURN; END_FOR; %s"};
        for (String text : come) {
            Bench.refused(51, head + text.formatted(deep) + " END_PROGRAM");
        }
        String[] never = {"RETURN; %s", "IF z THEN RETURN; %s END_IF;", "IF z THEN RETURN; ELSE RETURN; END_IF; %s", "FOR m := 1 TO 2 DO EXIT; %s END_FOR;", "FOR m := 1 TO 2 DO RETURN; %s END_FOR;",
            "CASE n OF 1: RETURN; ELSE RETURN; END_CASE; %s", "FOR m := 1 TO 2 DO IF z THEN EXIT; ELSE RETURN; END_IF; %s END_FOR;", "RETURN; IF z THEN %s END_IF;", "RETURN; FOR m := 1 TO 2 DO %s END_FOR;",
            "RETURN; CASE n OF 1: END_CASE; %s", "RETURN; FOR m := 1 TO 2 DO END_FOR; %s", "CASE n OF ELSE RETURN; END_CASE; %s", "FOR m := 1 TO 2 DO RETURN; IF z THEN END_IF; %s END_FOR;"};
        for (String text : never) {
            Bench.accepted(head.replace("@", "") + text.formatted(deep) + " END_PROGRAM");
        }
    }

    /** How often a FOR goes, for all small constants and at the ends of both types: counted in scans, and by the bound. */
    private static void timesOfLoops() {
        for (int first = -3; first <= 3; first++) {
            for (int last = -3; last <= 3; last++) {
                for (int step = -5; step <= 5; step++) {
                    if (step != 0) {
                        loop("INT", first, last, step);
                        loop("DINT", first, last, step);
                    }
                }
            }
        }
        long[][] ends = {{32766, 32767, 1}, {32767, 32767, 1}, {32765, 32767, 3}, {-32767, -32768, -1}, {-32768, -32768, -1}, {-32768, 32767, 32767}, {32767, -32768, -32768}, {-32768, 32767, -1}, {32767, -32768, 1}};
        for (long[] row : ends) {
            loop("INT", row[0], row[1], row[2]);
            loop("DINT", row[0], row[1], row[2]);
        }
        long[][] far = {{2147483646, 2147483647, 1}, {2147483647, 2147483647, 1}, {-2147483646, -2147483647, -1}, {-2147483647, 2147483647, 2147483647}, {2147483647, -2147483647, -2147483647},
            {-2147483647, 2147483647, 1000000007}, {-2147483647, 2147483647, -1}, {2147483647, -2147483647, 1}, {2147483600, 2147483647, 7}};
        for (long[] row : far) {
            loop("DINT", row[0], row[1], row[2]);
        }
    }

    private static void loop(String type, long first, long last, long step) {
        int times = 0;
        for (long at = first; step > 0 ? at <= last : at >= last; at += step) {
            times++;
        }
        PlantKeeper x = Bench.loaded("PROGRAM p VAR n : " + type + "; c : INT; s : DINT; END_VAR FOR n := " + first + " TO " + last + " BY " + step + " DO c := c + 1; s := n; END_FOR; END_PROGRAM");
        // PUSH STORE COUNT NEXT, and for each time NEXT, the body's six, LOAD PUSH TWO STORE BACK.
        Bench.due("bound of " + first + " TO " + last + " BY " + step, x.count(2), 4 + 12 * times);
        Bench.due("scan of " + first + " TO " + last + " BY " + step, x.scan(0), 4 + 12 * times);
        Bench.watched(x, "c", 1, times);
        Bench.watched(x, "s", 2, times == 0 ? 0 : (int) (first + (times - 1) * step));
        int end = (int) (first + times * step);
        Bench.watched(x, "n", type.equals("INT") ? 1 : 2, type.equals("INT") ? (short) end : end);
    }

    /** A body of exactly so many steps, all of which are always gone. */
    private static String steps(int n) {
        return "a:=1;".repeat(n / 2) + "t();".repeat(n % 2);
    }

    /** "52: its BOUND is above 1,000,000,000" */
    private static void oneThousandMillionSteps() {
        // 4 + 1,000,000 * (6 + 993), 4 + 166,665 * 6, and some: a loop is 3, a round 6 and its body, and the last NEXT.
        String vars = "VAR a:INT;d:DINT;t:TON;END_VAR ";
        String loops = "FOR d:=1 TO 1000000 DO " + steps(993) + "END_FOR;FOR d:=1 TO 166665 DO END_FOR;";
        String program = "PROGRAM p VAR k : f; END_VAR k(); END_PROGRAM";
        String head = "FUNCTION_BLOCK f " + vars + loops;
        String tail = "END_FUNCTION_BLOCK ";
        Bench.accepted(head + steps(1) + tail + "PROGRAM p END_PROGRAM");
        Bench.accepted(head + steps(2) + tail + "PROGRAM p END_PROGRAM");
        Bench.refused(52, " @" + head + steps(3) + tail + "PROGRAM p END_PROGRAM");
        Bench.refused(52, " @" + head + steps(4) + tail + program);
        // ENTER is one step more, which comes to the PROGRAM's bound.
        Bench.refused(53, head + steps(1) + tail + "@" + program);
        Bench.refused(52, head + steps(2) + tail + "@" + program);
        Bench.refused(53, " @PROGRAM p " + vars + loops + steps(2) + "END_PROGRAM");
        Bench.refused(52, " @PROGRAM p " + vars + loops + steps(3) + "END_PROGRAM");
        Bench.refused(53, " @PROGRAM p " + vars + "IF TRUE THEN RETURN;END_IF;" + loops + "END_PROGRAM");
        // Bounds far above what a number of 32 or 64 bits holds.
        StringBuilder far = new StringBuilder();
        for (int i = 0; i < 30; i++) {
            far.append("FOR d").append(i).append(":=1 TO 1000000 DO ");
        }
        StringBuilder names = new StringBuilder("d");
        for (int i = 0; i < 30; i++) {
            names.append(",d").append(i);
        }
        Bench.refused(52, "@PROGRAM p VAR " + names + ":DINT;END_VAR " + far + "END_FOR;".repeat(30) + "END_PROGRAM");
        Bench.refused(0, "PROGRAM p VAR " + names + ":DINT;END_VAR RETURN;" + far + "END_FOR;".repeat(30) + "END_PROGRAM");
        Bench.refused(0, "PROGRAM p VAR " + names + ":DINT;END_VAR FOR d:=1 TO 0 DO " + far + "END_FOR;".repeat(31) + "END_PROGRAM");
        Bench.refused(0, "PROGRAM p VAR " + names + ":DINT;END_VAR FOR d:=1 TO 9 DO EXIT;" + far + "END_FOR;".repeat(31) + "END_PROGRAM");
    }

    /** "53, at the PROGRAM's place: its bound is above the budget"; "BAD: the budget is not 100 .. 100,000". */
    private static void budgets() {
        String vars = "VAR a:INT;d:DINT;t:TON;END_VAR ";
        for (int budget : new int[] {100, 101, 500, 2000}) {
            for (int more = -1; more <= 1; more++) {
                Bench.refused(more > 0 ? 53 : 0, " " + (more > 0 ? "@" : "") + "PROGRAM p " + vars + steps(budget + more) + "END_PROGRAM", budget);
            }
        }
        // 4 + 10,000 * 6 + 4 + 6,665 * 6 and 2 are 100,000.
        String most = "FOR d:=1 TO 10000 DO END_FOR;FOR d:=1 TO 6665 DO END_FOR;";
        PlantKeeper x = Bench.loaded("PROGRAM p " + vars + most + steps(2) + "END_PROGRAM");
        Bench.due("bound", x.count(2), 100000);
        for (int i = 1; i <= 3; i++) {
            Bench.due("the longest scan", x.scan(1), 100000);
            Bench.due("scans", x.count(6), i);
            Bench.due("above the bound", x.count(7), 0);
        }
        Bench.refused(53, " @PROGRAM p " + vars + most + steps(3) + "END_PROGRAM");
        Bench.refused(53, " @PROGRAM p " + vars + most + steps(2) + "END_PROGRAM", 99999);
        for (int budget : new int[] {Integer.MIN_VALUE, -1, 0, 99, 100001, Integer.MAX_VALUE}) {
            PlantKeeper y = new PlantKeeper();
            Bench.due("load(" + budget + ")", Bench.load(y, "PROGRAM p END_PROGRAM", budget), PlantKeeper.BAD);
            Bench.due("the tape stays", y.load(100), 0);
        }
        // Only the PROGRAM's bound is asked: a FUNCTION that is not called may take longer.
        Bench.refused(0, "FUNCTION g : INT VAR d:DINT;END_VAR FOR d:=1 TO 1000 DO END_FOR;END_FUNCTION PROGRAM p END_PROGRAM", 100);
    }

    /** 50, then of each unit 51 and 52, then 53. */
    private static void orderOfFaults() {
        String deep = "x := " + high(65) + "; ";
        String loop = "FOR d := 1 TO 1000000 DO FOR e := 1 TO 1000000 DO END_FOR; END_FOR; ";
        String vars = "VAR x : INT; d, e : DINT; END_VAR ";
        Bench.refused(50, "@ " + EIGHT + blocks(15) + "PROGRAM p " + vars + deep + loop + "END_PROGRAM");
        Bench.refused(51, EIGHT + "@PROGRAM p " + vars + loop + deep + "END_PROGRAM");
        Bench.refused(52, EIGHT + "@FUNCTION_BLOCK g " + vars + loop + "END_FUNCTION_BLOCK PROGRAM p " + vars + deep + "END_PROGRAM");
        Bench.refused(51, EIGHT + "@FUNCTION_BLOCK g " + vars + deep + "END_FUNCTION_BLOCK PROGRAM p " + vars + loop + "END_PROGRAM");
        Bench.refused(52, EIGHT + "@PROGRAM p " + vars + loop + "END_PROGRAM", 100);
        Bench.refused(51, EIGHT + "@PROGRAM p " + vars + deep + "FOR d := 1 TO 1000 DO END_FOR; END_PROGRAM", 100);
    }

    /** "A FUNCTION has a PLACE: behind the PROGRAM's cells, one FUNCTION behind the other": all 8,192 cells are used. */
    private static void cellsSideBySide() {
        // The PROGRAM has 4,096 cells and 1 of its FOR; fifteen FUNCTIONS have the others: 273 each.
        StringBuilder functions = new StringBuilder();
        StringBuilder calls = new StringBuilder();
        for (int i = 0; i < 15; i++) {
            StringBuilder names = new StringBuilder("q0");
            for (int k = 1; k < 273 - 2 - 156; k++) {
                names.append(",q").append(Integer.toString(k, 36));
            }
            functions.append("FUNCTION f").append(i).append(":BOOL VAR_INPUT x:BOOL;END_VAR VAR ").append(names).append(":BOOL:=TRUE;END_VAR LADDER RUNG x (f").append(i)
                .append(");END_RUNG END_LADDER END_FUNCTION ");
            calls.append("b").append(i).append(" := f").append(i).append("(i); ");
        }
        StringBuilder vars = new StringBuilder("i AT %IX0 : BOOL; n : INT; ");
        for (int i = 0; i < 15; i++) {
            vars.append("b").append(i).append(" : BOOL; ");
        }
        for (int i = 0; i < 12; i++) {
            vars.append("r").append(i).append(" : ARRAY [1 .. 256] OF INT := ").append(100 + i).append("; ");
        }
        // 960, n, fifteen, 12 * 256 and 48 are 4,096.
        vars.append("s : ARRAY [1 .. 47] OF INT := 7; last : INT := 8; ");
        PlantKeeper x = Bench.loaded(functions + "PROGRAM p VAR " + vars + "END_VAR FOR n := 1 TO 3 DO " + calls + "END_FOR; END_PROGRAM");
        Bench.due("cells", x.count(4), 4097 + 15 * 273);
        for (int turn = 0; turn < 4; turn++) {
            x.put(0, 0, turn % 2);
            Bench.due("scan", x.scan(1), x.count(2));
            for (int i = 0; i < 15; i++) {
                Bench.watched(x, "b" + i, 0, turn % 2);
            }
            for (int i = 0; i < 12; i++) {
                Bench.watched(x, "r" + i + "[1]", 1, 100 + i);
                Bench.watched(x, "r" + i + "[256]", 1, 100 + i);
            }
            Bench.watched(x, "s[1]", 1, 7);
            Bench.watched(x, "s[47]", 1, 7);
            Bench.watched(x, "last", 1, 8);
            Bench.watched(x, "n", 1, 4);
        }
    }

    /** Statements by chance, with all ways through them: how many steps, on, by EXIT or by RETURN. */
    private static final class Part {
        final StringBuilder text = new StringBuilder();
        int instructions = 0;
        int cells = 0;
        final TreeSet<Integer> on = new TreeSet<>();
        final TreeSet<Integer> exits = new TreeSet<>();
        final TreeSet<Integer> leaves = new TreeSet<>();

        static Part plain(String text, int steps) {
            Part part = new Part();
            part.text.append(text);
            part.instructions = steps;
            part.on.add(steps);
            return part;
        }

        /** All ways through this one, and behind it through another one. */
        void then(Part next) {
            text.append(next.text);
            instructions += next.instructions;
            cells += next.cells;
            TreeSet<Integer> before = new TreeSet<>(on);
            on.clear();
            for (int n : before) {
                next.on.forEach(m -> on.add(n + m));
                next.exits.forEach(m -> exits.add(n + m));
                next.leaves.forEach(m -> leaves.add(n + m));
            }
        }

        void either(Part other, int more) {
            other.on.forEach(m -> on.add(m + more));
            other.exits.forEach(m -> exits.add(m + more));
            other.leaves.forEach(m -> leaves.add(m + more));
        }
    }

    private static Part statements(Random random, int depth, boolean loop) {
        Part all = Part.plain("", 0);
        for (int i = random.nextInt(3) + (depth > 1 ? 1 : 0); i > 0; i--) {
            all.then(statement(random, depth, loop));
        }
        return all;
    }

    private static Part statement(Random random, int depth, boolean loop) {
        int kind = random.nextInt(depth == 0 ? 4 : 10);
        if (kind == 0) {
            return Part.plain("d := a; ", 2);
        }
        if (kind == 1) {
            return Part.plain("t(); ", 1);
        }
        if (kind == 2 && loop) {
            Part part = new Part();
            part.text.append("EXIT; ");
            part.instructions = 1;
            part.exits.add(1);
            return part;
        }
        if (kind == 3 && random.nextInt(3) == 0) {
            Part part = new Part();
            part.text.append("RETURN; ");
            part.instructions = 1;
            part.leaves.add(1);
            return part;
        }
        if (kind <= 3) {
            return Part.plain("d := d + a; ", 4);
        }
        return kind <= 6 ? condition(random, depth, loop) : kind == 7 ? choice(random, depth, loop) : loop(random, depth);
    }

    private static Part condition(Random random, int depth, boolean loop) {
        Part part = new Part();
        Part first = statements(random, depth - 1, loop);
        part.text.append("IF z THEN ").append(first.text);
        part.cells = first.cells;
        if (random.nextBoolean()) {
            Part second = statements(random, depth - 1, loop);
            part.text.append("ELSE ").append(second.text).append("END_IF; ");
            part.cells += second.cells;
            part.instructions = 3 + first.instructions + second.instructions;
            // LOAD, UNLESS, the first body and GO; or the second one.
            first.on.forEach(m -> part.on.add(m + 3));
            first.exits.forEach(m -> part.exits.add(m + 2));
            first.leaves.forEach(m -> part.leaves.add(m + 2));
            part.either(second, 2);
        } else {
            part.text.append("END_IF; ");
            part.instructions = 2 + first.instructions;
            part.either(first, 2);
            part.on.add(2);
        }
        return part;
    }

    /** LOAD, STORE; LOAD, PUSH, TWO, UNLESS and a body with GO for each choice but the last, or the ELSE. */
    private static Part choice(Random random, int depth, boolean loop) {
        Part part = new Part();
        Part first = statements(random, depth - 1, loop);
        Part second = statements(random, depth - 1, loop);
        part.text.append("CASE a OF 1: ").append(first.text).append("2 .. 3: ").append(second.text).append("END_CASE; ");
        part.cells = 1 + first.cells + second.cells;
        part.instructions = 2 + 4 + first.instructions + 1 + 8 + second.instructions;
        first.on.forEach(m -> part.on.add(6 + m + 1));
        first.exits.forEach(m -> part.exits.add(6 + m));
        first.leaves.forEach(m -> part.leaves.add(6 + m));
        part.either(second, 14);
        part.on.add(14);
        return part;
    }

    private static int loops = 0;

    private static Part loop(Random random, int depth) {
        int times = random.nextInt(4);
        String name = "l" + loops++ % 30;
        Part body = statements(random, depth - 1, true);
        Part part = new Part();
        part.text.append("FOR ").append(name).append(" := 1 TO ").append(times).append(" DO ").append(body.text).append("END_FOR; ");
        part.cells = 1 + body.cells;
        part.instructions = 9 + body.instructions;
        TreeSet<Integer> here = new TreeSet<>();
        here.add(3);
        for (int i = 0; i < times; i++) {
            TreeSet<Integer> next = new TreeSet<>();
            for (int n : here) {
                body.on.forEach(m -> next.add(n + 1 + m + 5));
                body.exits.forEach(m -> part.on.add(n + 1 + m));
                body.leaves.forEach(m -> part.leaves.add(n + 1 + m));
            }
            here = next;
        }
        here.forEach(n -> part.on.add(n + 1));
        return part;
    }

    private static void allWays() {
        Random random = new Random(5);
        StringBuilder names = new StringBuilder("l0");
        for (int i = 1; i < 30; i++) {
            names.append(", l").append(i);
        }
        int tried = 0;
        for (int run = 0; run < 4000; run++) {
            loops = 0;
            Part part = statements(random, 4, false);
            if (part.on.size() + part.leaves.size() > 3000 || part.text.length() > 4000 || loops > 30) {
                continue;
            }
            tried++;
            TreeSet<Integer> ways = new TreeSet<>(part.on);
            ways.addAll(part.leaves);
            int bound = ways.last();
            PlantKeeper x = new PlantKeeper();
            String text = "PROGRAM p VAR a AT %IW0 : INT; z AT %IX0 : BOOL; d : INT; t : TON; " + names + " : INT; END_VAR " + part.text + "END_PROGRAM";
            Bench.due("load " + text, Bench.load(x, text), bound > 100000 ? 53 : 0);
            if (bound <= 100000) {
                Bench.due("bound of " + text, x.count(2), bound);
                Bench.due("instructions of " + text, x.count(3), part.instructions);
                Bench.due("cells of " + text, x.count(4), 960 + 1 + 6 + 30 + part.cells);
                for (int i = 0; i < 6; i++) {
                    x.put(3, 0, i / 2);
                    x.put(0, 0, i % 2);
                    int steps = x.scan(1);
                    Bench.due("a way through " + text + ": " + steps, ways.contains(steps) ? 1 : 0, 1);
                }
                Bench.refused(bound > 100 ? 53 : 0, (bound > 100 ? "@" : "") + text, 100);
                Bench.refused(0, text, Math.max(100, bound));
            }
        }
        Bench.due("tried " + tried, tried > 1500 ? 1 : 0, 1);
    }
}
