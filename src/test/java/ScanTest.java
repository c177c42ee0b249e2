/** Promises 5 and 9: restart and scan; INSTRUCTIONS and SCANS. */
public final class ScanTest {
    public static void main(String[] args) {
        wrongCalls();
        inputsAndOutputs();
        arithmetic();
        folded();
        shiftsAndChoices();
        elements();
        statements();
        functions();
        instances();
        nestedUnits();
        ladders();
        zero();
        index();
        restarting();
        reloading();
        Bench.finish("ScanTest");
    }

    private static void wrongCalls() {
        PlantKeeper x = new PlantKeeper();
        Bench.due("scan(-1) with nothing loaded", x.scan(-1), PlantKeeper.BAD);
        Bench.due("scan(100001) with nothing loaded", x.scan(100001), PlantKeeper.BAD);
        Bench.due("scan with nothing loaded", x.scan(5), PlantKeeper.NONE);
        Bench.due("restart with nothing loaded", x.restart(), PlantKeeper.NONE);
        Bench.load(x, "PROGRAM p VAR a : INT; END_VAR a := 1 / a; END_PROGRAM");
        Bench.due("scan(-1)", x.scan(-1), PlantKeeper.BAD);
        Bench.due("scan(100001)", x.scan(100001), PlantKeeper.BAD);
        Bench.due("no scan", x.count(6), 0);
        Bench.due("scan(100000)", x.scan(100000), PlantKeeper.ZERO);
        Bench.due("scan(-1) when stopped", x.scan(-1), PlantKeeper.BAD);
        Bench.due("scan(0) when stopped", x.scan(0), PlantKeeper.STOPPED);
        Bench.due("NOW", x.count(8), 100000);
    }

    private static void inputsAndOutputs() {
        PlantKeeper x = Bench.loaded("PROGRAM p VAR i AT %IX3 : BOOL; w AT %IW4 : INT; q AT %QX5 : BOOL; v AT %QW6 : INT; "
            + "m AT %MX7 : BOOL; n AT %MW8 : INT; END_VAR q := i; v := w + 1; m := NOT i; n := n + 1; END_PROGRAM");
        x.put(0, 3, 1);
        x.put(3, 4, 41);
        Bench.watched(x, "i", 0, 0);
        Bench.due("output before", x.get(4, 6), 0);
        Bench.due("scan", x.scan(1), 2 + 4 + 3 + 4);
        Bench.due("bit", x.get(1, 5), 1);
        Bench.due("word", x.get(4, 6), 42);
        Bench.due("memory", x.get(2, 7), 0);
        Bench.due("memory", x.get(5, 8), 1);
        x.put(0, 3, 0);
        x.put(3, 4, 32767);
        Bench.watched(x, "i", 0, 1);
        Bench.watched(x, "w", 1, 41);
        Bench.due("output as published", x.get(1, 5), 1);
        x.put(5, 8, 100);
        x.scan(0);
        Bench.due("bit", x.get(1, 5), 0);
        Bench.due("word wraps", x.get(4, 6), -32768);
        Bench.due("memory", x.get(2, 7), 1);
        Bench.due("memory goes on from what was put", x.get(5, 8), 101);
    }

    /** What an expression over a, b : INT, d, e : DINT, z, y : BOOL comes to in a variable of a type. */
    private static void value(String type, String expression, int want, int... inputs) {
        PlantKeeper x = Bench.loaded("PROGRAM p VAR a AT %IW0 : INT; b AT %IW1 : INT; h AT %IW2 : INT; l AT %IW3 : INT; d, e : DINT; "
            + "z AT %IX0 : BOOL; y AT %IX1 : BOOL; v : " + type + "; END_VAR d := a * TO_DINT(65536) + TO_DINT(h); "
            + "e := b * TO_DINT(65536) + TO_DINT(l); v := " + expression + "; END_PROGRAM");
        for (int i = 0; i < inputs.length; i++) {
            x.put(3, i, inputs[i]);
            x.put(0, i & 255, inputs[i] != 0 ? 1 : 0);
        }
        Bench.due("scan of " + expression, x.scan(1) > 0 ? 1 : 0, 1);
        Bench.watched(x, "v", type.equals("BOOL") ? 0 : type.equals("INT") ? 1 : 2, want);
    }

    private static void arithmetic() {
        value("INT", "a + b", -32768, 32767, 1);
        value("INT", "a - b", 32767, -32768, 1);
        value("INT", "a * b", 16960, 1000, 1000);
        value("INT", "a / b", -3, 7, -2);
        value("INT", "a / b", -32768, -32768, -1);
        value("INT", "a / b", 7, 7, 1);
        value("INT", "a MOD b", 0, 7, 1);
        value("DINT", "d / b", 65536, 1, 1);
        value("DINT", "d MOD b", 0, 1, 1);
        value("INT", "a MOD b", 1, 7, -2);
        value("INT", "a MOD b", -1, -7, 2);
        value("INT", "a MOD b", 0, -32768, -1);
        value("INT", "-a", -32768, -32768);
        value("INT", "NOT a", -6, 5);
        value("INT", "ABS(a)", -32768, -32768);
        value("INT", "ABS(a)", 7, -7);
        value("INT", "a AND b", 8, 12, 10);
        value("INT", "a OR b", 14, 12, 10);
        value("INT", "a XOR b", 6, 12, 10);
        value("INT", "a & b", -32768, -32768, -1);
        value("DINT", "a + b", -32768, 32767, 1);
        value("DINT", "d + 1", Integer.MIN_VALUE + 1, -32768);
        value("DINT", "d - 1", Integer.MAX_VALUE, -32768);
        value("DINT", "d * 2", 0, -32768);
        value("DINT", "d / -1", Integer.MIN_VALUE, -32768);
        value("DINT", "d MOD -1", 0, -32768);
        value("DINT", "-d", Integer.MIN_VALUE, -32768);
        value("DINT", "ABS(d)", Integer.MIN_VALUE, -32768);
        value("DINT", "ABS(d)", 65536, -1);
        value("DINT", "NOT d", -65537, 1);
        value("DINT", "d / e", -1, 5, -4);
        value("DINT", "d MOD e", -65536, -5, -4);
        value("DINT", "d XOR e", 65536 * 6, 12, 10);
        value("DINT", "a + d", 65536 + 1, 1);
        value("BOOL", "a = b", 1, 5, 5);
        value("BOOL", "a <> b", 0, 5, 5);
        value("BOOL", "a < b", 1, -5, 5);
        value("BOOL", "a > b", 0, -5, 5);
        value("BOOL", "a <= b", 1, 5, 5);
        value("BOOL", "a >= b", 0, 4, 5);
        value("BOOL", "d > e", 1, 32767, -32768);
        value("BOOL", "z AND y", 0, 1, 0);
        value("BOOL", "z OR y", 1, 1, 0);
        value("BOOL", "z XOR y", 0, 1, 1);
        value("BOOL", "NOT z", 0, 1);
        value("BOOL", "z = y", 1, 0, 0);
        value("INT", "a - b - 1", 1, 5, 3);
        value("INT", "a - (b - 1)", 3, 5, 3);
        value("INT", "a + b * 2", 11, 5, 3);
        value("INT", "a / b / 2", 2, 12, 3);
        value("INT", "-a + b", -2, 5, 3);
        value("INT", "- - a", 5, 5);
        value("BOOL", "z OR y AND NOT z", 1, 1, 0);
        value("BOOL", "NOT z OR y", 1, 0, 0);
        value("BOOL", "(a OR b) = 3", 1, 1, 2);
    }

    private static void folded() {
        value("INT", "32767 + 1", -32768);
        value("INT", "TO_INT(65535)", -1);
        value("INT", "TO_INT(T#1H)", -4480);
        value("DINT", "T#2M + T#3S + T#4MS", 123004);
        value("DINT", "2147483647 + 1", Integer.MIN_VALUE);
        value("DINT", "300 * 300", 24464);
        value("DINT", "300 * TO_DINT(300)", 90000);
        value("DINT", "16#FFFF * 2#11", 196605);
        value("DINT", "-32768 - 1", -32769);
        value("INT", "-7 / 2 * 10 + -7 MOD 3", -31);
        value("INT", "NOT 0", -1);
        value("BOOL", "NOT (1 = 1) OR 2 <> 3 AND 2 >= 2", 1);
        value("INT", "ABS(-7) + MIN(3, 4) * MAX(3, 4)", 19);
        value("INT", "LIMIT(1, 9, 5)", 5);
        value("INT", "SEL(FALSE, 1, 2) * 10 + SEL(TRUE, 1, 2)", 12);
        value("INT", "SHL(1, 15)", -32768);
        value("INT", "SHR(-1, 12)", 15);
        value("DINT", "SHL(65536, 15)", Integer.MIN_VALUE);
        value("DINT", "TO_DINT(TRUE)", 1);
        value("BOOL", "TO_BOOL(2)", 1);
    }

    private static void shiftsAndChoices() {
        value("INT", "SHL(a, b)", -2, -1, 1);
        value("INT", "SHL(a, b)", 0, -1, 16);
        value("INT", "SHL(a, b)", 0, -1, -1);
        value("INT", "SHL(a, b)", -32768, 1, 15);
        value("INT", "SHR(a, b)", 1, -32768, 15);
        value("INT", "SHR(a, b)", -1, -1, 0);
        value("INT", "SHR(a, b)", 0, -1, 16);
        value("DINT", "SHL(d, b)", 1 << 31, 1, 15);
        value("DINT", "SHL(d, b)", 0, 1, 16);
        value("DINT", "SHL(d, b)", 65536, 1, 0);
        value("DINT", "SHR(d, b)", -65536, -1, 0);
        value("INT", "SHL(a, b)", 7, 7, 0);
        value("INT", "SHL(a, b)", 0, 7, 32);
        value("INT", "SHL(a, b)", 0, 7, -32);
        value("INT", "SHR(a, b)", 0, 7, 32);
        value("INT", "SHR(a, b)", 0, 7, -32);
        value("DINT", "SHL(d, b)", 0, 7, 32);
        value("DINT", "SHL(d, b)", 0, 7, -32);
        value("DINT", "SHR(d, b)", 0, 7, 64);
        value("INT", "ABS(a OR b) + MAX(a OR b, b XOR 1)", 14, 5, 3);
        value("BOOL", "TO_BOOL(a OR b) AND SEL(z OR y, z, z OR y)", 1, 5, 0);
        value("DINT", "SHR(d, b)", 1, -32768, 31);
        value("DINT", "SHR(d, b)", 0, -32768, 32);
        value("DINT", "SHR(d, b)", 0, -32768, -1);
        value("INT", "MIN(a, b)", -5, 3, -5);
        value("INT", "MAX(a, b)", 3, 3, -5);
        value("INT", "LIMIT(a, b, h)", 3, 1, 3, 7);
        value("INT", "LIMIT(a, b, h)", 1, 1, -3, 7);
        value("INT", "LIMIT(a, b, h)", 7, 1, 30, 7);
        value("INT", "LIMIT(a, b, h)", 2, 9, 5, 2);
        value("INT", "SEL(z, b, h)", 3, 0, 3, 7);
        value("INT", "SEL(z, b, h)", 7, 1, 3, 7);
        value("INT", "TO_INT(d)", 5, 1, 0, 5);
        value("INT", "TO_INT(z)", 1, 9);
        value("BOOL", "TO_BOOL(a)", 1, -5);
        value("BOOL", "TO_BOOL(d)", 1, 1);
        value("BOOL", "TO_BOOL(a)", 0, 0);
    }

    private static void elements() {
        PlantKeeper x = Bench.loaded("PROGRAM p VAR i AT %IW0 : INT; r : ARRAY [-2 .. 2] OF DINT := 9; END_VAR "
            + "r[i] := r[-i] + i; END_PROGRAM");
        Bench.watched(x, "r[-2]", 2, 9);
        x.put(3, 0, 2);
        Bench.due("scan", x.scan(1), 1 + 2 + 1 + 1 + 1 + 1);
        Bench.watched(x, "r[2]", 2, 11);
        x.put(3, 0, -2);
        x.scan(1);
        Bench.watched(x, "r[-2]", 2, 9);
        Bench.watched(x, "r[1]", 2, 9);
    }

    private static void statements() {
        PlantKeeper x = Bench.loaded("PROGRAM p VAR i AT %IW0 : INT; a, b, n, o : INT; END_VAR "
            + "IF i < 0 THEN a := 1; ELSIF i = 0 THEN a := 2; ELSE a := 3; END_IF; "
            + "CASE i OF -5 .. -1: b := 1; 0, 2 .. 3, 7: b := 2; 3: b := 3; ELSE b := 4; END_CASE; "
            + "o := 0; FOR n := 10 TO 1 BY -2 DO IF n = i THEN EXIT; END_IF; o := o + n; END_FOR; "
            + "IF i = 7 THEN RETURN; END_IF; o := o + 1000; END_PROGRAM");
        int[][] rows = {{-5, 1, 1, 1030, 0}, {-6, 1, 4, 1030, 0}, {0, 2, 2, 1030, 0}, {1, 3, 4, 1030, 0}, {2, 3, 2, 1028, 2},
            {3, 3, 2, 1030, 0}, {6, 3, 4, 1018, 6}, {7, 3, 2, 30, 0}, {10, 3, 4, 1000, 10}};
        for (int[] row : rows) {
            x.put(3, 0, row[0]);
            Bench.due("scan by " + row[0], x.scan(1) <= x.count(2) ? 1 : 0, 1);
            Bench.watched(x, "a", 1, row[1]);
            Bench.watched(x, "b", 1, row[2]);
            Bench.watched(x, "o", 1, row[3]);
            Bench.watched(x, "n", 1, row[4]);
        }
        PlantKeeper y = Bench.loaded("PROGRAM p VAR a : INT; b : DINT; n : INT; END_VAR FOR a := 32766 TO 32767 DO n := n + 1; END_FOR; "
            + "FOR b := 5 TO 4 DO n := 99; END_FOR; END_PROGRAM");
        y.scan(0);
        Bench.watched(y, "a", 1, -32768);
        Bench.watched(y, "b", 2, 5);
        Bench.watched(y, "n", 1, 2);
    }

    private static void functions() {
        PlantKeeper x = Bench.loaded("FUNCTION add : DINT VAR_INPUT a : INT; b : DINT; END_VAR VAR n : INT := 5; m : INT; END_VAR "
            + "add := add + a * 10 + b + n + m; n := n + 1; m := m + 1; END_FUNCTION "
            + "FUNCTION twice : DINT VAR_INPUT v : INT; END_VAR IF v < 0 THEN RETURN; END_IF; twice := add(v, v) + add(v, 0); END_FUNCTION "
            + "PROGRAM p VAR x, y, w, u : DINT; END_VAR x := add(1, 2); y := add(3, add(1, 1)); w := twice(4); u := twice(-1); END_PROGRAM");
        x.scan(1);
        for (int i = 0; i < 2; i++) {
            Bench.watched(x, "x", 2, 17);
            Bench.watched(x, "y", 2, 30 + 16 + 5);
            Bench.watched(x, "w", 2, 49 + 45);
            Bench.watched(x, "u", 2, 0);
            x.scan(1);
        }
    }

    private static void instances() {
        PlantKeeper x = Bench.loaded("FUNCTION_BLOCK sum VAR_INPUT step : INT := 3; END_VAR VAR_OUTPUT all : DINT := 100; END_VAR "
            + "all := all + step; END_FUNCTION_BLOCK FUNCTION_BLOCK both VAR_INPUT n : INT; END_VAR VAR s, t : sum; END_VAR "
            + "VAR_OUTPUT o : DINT; END_VAR s(step := n); t(); o := s.all + t.all; END_FUNCTION_BLOCK "
            + "PROGRAM p VAR b, c : both; d : DINT; END_VAR b(n := 7); c(); d := b.o - c.o; END_PROGRAM");
        Bench.watched(x, "b.s.all", 2, 100);
        Bench.watched(x, "c.t.step", 1, 3);
        x.scan(1);
        Bench.watched(x, "b.s.all", 2, 107);
        Bench.watched(x, "b.t.all", 2, 103);
        Bench.watched(x, "c.s.all", 2, 100);
        Bench.watched(x, "c.o", 2, 203);
        Bench.watched(x, "d", 2, 7);
        x.scan(1);
        Bench.watched(x, "b.s.all", 2, 114);
        Bench.watched(x, "d", 2, 14);
    }

    /** Sixteen units, each of which begins the one before. */
    private static void nestedUnits() {
        StringBuilder text = new StringBuilder("FUNCTION_BLOCK b0 VAR_OUTPUT n : INT; END_VAR n := n + 1; END_FUNCTION_BLOCK ");
        for (int i = 1; i < 15; i++) {
            text.append("FUNCTION_BLOCK b").append(i).append(" VAR k : b").append(i - 1).append("; END_VAR VAR_OUTPUT n : INT; END_VAR k(); n := k.n + 1; END_FUNCTION_BLOCK ");
        }
        PlantKeeper x = Bench.loaded(text + "PROGRAM p VAR k : b14; n : INT; END_VAR k(); n := k.n; END_PROGRAM");
        Bench.due("bound", x.count(2), 4 + 14 * 5 + 3);
        Bench.due("scan", x.scan(1), 4 + 14 * 5 + 3);
        Bench.watched(x, "n", 1, 15);
        Bench.watched(x, "k.k.k.k.k.k.k.k.k.k.k.k.k.k.k.n", 1, 1);
        x.scan(1);
        Bench.watched(x, "n", 1, 16);
    }

    private static void ladders() {
        PlantKeeper x = Bench.loaded("PROGRAM p VAR a AT %IX0 : BOOL; b AT %IX1 : BOOL; c AT %IX2 : BOOL; o AT %QX0 : BOOL; n AT %QX1 : BOOL; "
            + "s AT %QX2 : BOOL; u AT %QX3 : BOOL; d AT %QX4 : BOOL; t : SR; k AT %QX5 : BOOL; END_VAR LADDER "
            + "RUNG a b | - (o); c - - (/n); * - | * (-s); a - - (u); END_RUNG "
            + "RUNG >a (+s); <a (d); END_RUNG RUNG (k); END_RUNG END_LADDER END_PROGRAM");
        // Behind column 2 rows 0 and 1 are linked; rows 2 and 3 are linked behind column 2 too.
        int[][] rows = {
            // a b c: o n s u d k
            {0, 0, 0, 0, 1, 0, 0, 0, 1},
            {1, 0, 0, 0, 1, 1, 1, 0, 1},
            {1, 1, 0, 1, 0, 1, 1, 0, 1},
            {0, 0, 1, 1, 0, 1, 0, 1, 1},
            {0, 1, 0, 0, 1, 1, 0, 0, 1}};
        for (int[] row : rows) {
            for (int i = 0; i < 3; i++) {
                x.put(0, i, row[i]);
            }
            x.scan(1);
            for (int i = 0; i < 6; i++) {
                Bench.due("output " + i + " of " + java.util.Arrays.toString(row), x.get(1, i), row[3 + i]);
            }
        }
        PlantKeeper z = Bench.loaded("PROGRAM p VAR a AT %IX0 : BOOL; b AT %IX1 : BOOL; c AT %IX2 : BOOL; o AT %QX0 : BOOL; n AT %QX1 : BOOL; "
            + "m AT %QX2 : BOOL; END_VAR LADDER RUNG >a (o); <b (n); >c (m); END_RUNG END_LADDER END_PROGRAM");
        int[][] edges = {{0, 1, 1, 0, 0, 1}, {1, 1, 0, 1, 0, 0}, {1, 0, 1, 0, 1, 1}, {0, 0, 1, 0, 0, 0}, {1, 1, 0, 1, 0, 0}, {0, 0, 1, 0, 1, 1}};
        for (int[] row : edges) {
            for (int i = 0; i < 3; i++) {
                z.put(0, i, row[i]);
            }
            z.scan(1);
            for (int i = 0; i < 3; i++) {
                Bench.due("edge " + i + " of " + java.util.Arrays.toString(row), z.get(1, i), row[3 + i]);
            }
        }
        PlantKeeper y = Bench.loaded("PROGRAM p VAR a AT %IX0 : BOOL; b AT %IX1 : BOOL; o AT %QX0 : BOOL; n AT %QX1 : BOOL; END_VAR LADDER "
            + "RUNG a | - (o); b * (n); END_RUNG RUNG a - (-n); END_RUNG END_LADDER END_PROGRAM");
        int[][] more = {{0, 0, 0, 0}, {1, 0, 1, 0}, {0, 1, 1, 0}, {1, 1, 1, 0}};
        for (int[] row : more) {
            y.put(0, 0, row[0]);
            y.put(0, 1, row[1]);
            y.scan(1);
            Bench.due("linked", y.get(1, 0), row[2]);
            Bench.due("a gap has no power", y.get(1, 1), row[3]);
        }
    }

    private static void zero() {
        String[] zeros = {"a / b", "a MOD b", "d / b", "d MOD b", "1 / 0", "TO_DINT(1) MOD 0"};
        for (String text : zeros) {
            PlantKeeper x = Bench.loaded("PROGRAM p VAR a, b : INT; d, e : DINT; q AT %QX0 : BOOL; END_VAR q := TRUE; a := 7; e := " + text
                + "; a := 8; END_PROGRAM");
            Bench.due("scan of " + text, x.scan(3), PlantKeeper.ZERO);
            Bench.due("steps", x.count(5), 7);
            Bench.due("scans", x.count(6), 1);
            Bench.due("stopped", x.count(9), 1);
            Bench.due("safe output", x.get(1, 0), 0);
            Bench.watched(x, "a", 1, 7);
            Bench.watched(x, "q", 0, 1);
            Bench.due("scan", x.scan(3), PlantKeeper.STOPPED);
            Bench.due("NOW", x.count(8), 3);
            Bench.due("scans", x.count(6), 1);
            Bench.due("steps", x.count(5), 7);
        }
    }

    private static void index() {
        int[][] rows = {{-2, 0}, {3, 0}, {-3, 1}, {4, 1}, {32767, 1}, {-32768, 1}};
        for (int[] row : rows) {
            for (String text : new String[] {"r[i] := 1;", "n := r[i];"}) {
                PlantKeeper x = Bench.loaded("PROGRAM p VAR i AT %IW0 : INT; n : INT; r : ARRAY [-2 .. 3] OF INT; END_VAR " + text + " END_PROGRAM");
                x.put(3, 0, row[0]);
                Bench.due(text + row[0], x.scan(1), row[1] == 1 ? PlantKeeper.INDEX : 3);
                Bench.due("stopped", x.count(9), row[1]);
            }
        }
        PlantKeeper y = Bench.loaded("PROGRAM p VAR d : DINT := -2147483647; n : INT; r : ARRAY [2147483647 .. 2147483647] OF INT; END_VAR "
            + "n := r[d]; END_PROGRAM");
        Bench.due("a far index", y.scan(1), PlantKeeper.INDEX);
        PlantKeeper z = Bench.loaded("PROGRAM p VAR d : DINT := 2147483647; n : INT; r : ARRAY [2147483647 .. 2147483647] OF INT := 5; END_VAR "
            + "n := r[d]; END_PROGRAM");
        Bench.due("an index at the end", z.scan(1), 3);
        Bench.watched(z, "n", 1, 5);
        PlantKeeper f = Bench.loaded("FUNCTION f : INT VAR_INPUT a : INT; END_VAR f := 1 / a; END_FUNCTION FUNCTION_BLOCK b VAR_OUTPUT x : INT; END_VAR "
            + "x := 3; x := f(0); x := 4; END_FUNCTION_BLOCK PROGRAM p VAR k : b; n : INT; END_VAR n := 1; k(); n := 2; END_PROGRAM");
        Bench.due("a fault in a function", f.scan(1), PlantKeeper.ZERO);
        Bench.due("steps", f.count(5), 2 + 1 + 2 + 3 + 2 + 3);
        Bench.watched(f, "k.x", 1, 3);
        Bench.watched(f, "n", 1, 1);
    }

    private static void restarting() {
        PlantKeeper x = Bench.loaded("PROGRAM p VAR i AT %IW0 : INT; m AT %MW0 : INT := 7; q AT %QW0 : INT := 3; b AT %MX0 : BOOL; n : INT := 5; "
            + "r : ARRAY [0 .. 2] OF INT := 4; t : TON; END_VAR n := n + 1; q := q + n; r[1] := 1 / i; b := TRUE; m := 9; t(IN := TRUE, PT := 100); END_PROGRAM");
        x.safe(4, 0, -9);
        x.put(3, 0, 1);
        Bench.due("as it began", x.get(4, 0), 0);
        Bench.due("steps", x.scan(40), x.count(3));
        x.scan(40);
        Bench.due("published", x.get(4, 0), 3 + 6 + 7);
        Bench.watched(x, "t.et", 2, 40);
        x.put(3, 0, 0);
        Bench.due("fault", x.scan(40), PlantKeeper.ZERO);
        Bench.due("safe", x.get(4, 0), -9);
        Bench.watched(x, "n", 1, 8);
        x.put(5, 0, 77);
        Bench.due("memory when stopped", x.get(5, 0), 77);
        x.safe(4, 0, -11);
        Bench.due("published stays", x.get(4, 0), -9);
        int steps = x.count(5);
        Bench.due("restart", x.restart(), 0);
        Bench.due("safe ones are published", x.get(4, 0), -11);
        Bench.due("memory", x.get(5, 0), 7);
        Bench.due("memory", x.get(2, 0), 0);
        Bench.watched(x, "n", 1, 5);
        Bench.watched(x, "q", 1, 3);
        Bench.watched(x, "r[1]", 1, 4);
        Bench.watched(x, "t.et", 2, 0);
        Bench.watched(x, "t.in", 0, 0);
        Bench.due("steps", x.count(5), steps);
        Bench.due("scans", x.count(6), 3);
        Bench.due("NOW goes on", x.count(8), 120);
        Bench.due("stopped", x.count(9), 0);
        Bench.due("inputs stay", x.get(3, 0), 0);
        x.put(3, 0, 2);
        Bench.due("scan", x.scan(5), x.count(3));
        Bench.due("NOW", x.count(8), 125);
        Bench.due("published", x.get(4, 0), 9);
        Bench.due("restart without a fault", x.restart(), 0);
        Bench.due("safe", x.get(4, 0), -11);
    }

    private static void reloading() {
        PlantKeeper x = Bench.loaded("PROGRAM p VAR q AT %QX1 : BOOL; m AT %MX1 : BOOL; END_VAR q := TRUE; m := TRUE; END_PROGRAM");
        x.put(0, 9, 1);
        x.safe(1, 2, 1);
        x.station(9);
        x.scan(7);
        Bench.watched(x, "q", 0, 1);
        Bench.replied(x, new int[] {9, 1, 0, 1, 0, 1}, 9, 1, 1, 1);
        Bench.due("load a fault", Bench.load(x, "PROGRAM"), 6);
        Bench.due("scan", x.scan(1), PlantKeeper.NONE);
        Bench.due("the out stays", x.byteAt(0), 9);
        Bench.due("watched stays", x.watched(), 1);
        Bench.due("inputs stay", x.get(0, 9), 1);
        Bench.due("load", Bench.load(x, "PROGRAM p END_PROGRAM"), 0);
        Bench.due("safe outputs stay", x.get(1, 2), 1);
        Bench.due("outputs are safe ones", x.get(1, 1), 0);
        Bench.due("memory begins anew", x.get(2, 1), 0);
        Bench.due("the station stays", x.station(9), 9);
        Bench.due("NOW begins anew", x.count(8), 0);
        Bench.due("scans", x.count(6), 0);
        Bench.due("steps", x.count(5), 0);
        Bench.due("scan", x.scan(1), 0);
        Bench.due("outputs are published", x.get(1, 2), 0);
    }
}
