/** Promises 10 and 11: paths at their edges; types and values as the cells are. */
public final class WatchEdgesTest {
    private static final int BAD = PlantKeeper.BAD, NONE = PlantKeeper.NONE;
    private static final String LONG = "a23456789_123456789_123456789_12";

    public static void main(String[] args) {
        typesAndValues();
        formsOfPaths();
        bytesOfPaths();
        indexes();
        indexDigits();
        instances();
        standardBlocks();
        lengthOfNames();
        whatIsNoVariable();
        valuesAsTheyAreNow();
        watchedStays();
        Bench.finish("WatchEdgesTest");
    }

    private static void typesAndValues() {
        PlantKeeper x = Bench.loaded("PROGRAM p VAR b : BOOL := TRUE; i : INT := -32768; d : DINT := -2147483647; rb : ARRAY [0 .. 1] OF BOOL := TRUE; ri : ARRAY [0 .. 1] OF INT := 32767; "
            + "rd : ARRAY [0 .. 1] OF DINT := 2147483647; ix AT %IX0 : BOOL; iw AT %IW0 : INT; qx AT %QX0 : BOOL := TRUE; qw AT %QW0 : INT := 5; mx AT %MX0 : BOOL := TRUE; mw AT %MW0 : INT := 6; END_VAR "
            + "d := d - 1; END_PROGRAM");
        x.scan(0);
        Object[][] rows = {{"b", 0, 1}, {"i", 1, -32768}, {"d", 2, Integer.MIN_VALUE}, {"rb[1]", 0, 1}, {"ri[1]", 1, 32767}, {"rd[1]", 2, 2147483647}, {"ix", 0, 0}, {"iw", 1, 0}, {"qx", 0, 1}, {"qw", 1, 5},
            {"mx", 0, 1}, {"mw", 1, 6}};
        for (Object[] row : rows) {
            Bench.watched(x, (String) row[0], (Integer) row[1], (Integer) row[2]);
            Bench.watched(x, ((String) row[0]).toUpperCase(), (Integer) row[1], (Integer) row[2]);
        }
    }

    /** A simple variable has nothing behind it, an array [ ] alone, an instance a . and a name. */
    private static void formsOfPaths() {
        PlantKeeper x = Bench.loaded("FUNCTION_BLOCK f VAR v : INT := 3; r : ARRAY [0 .. 0] OF INT := 4; END_VAR END_FUNCTION_BLOCK "
            + "PROGRAM p VAR v : INT := 1; r : ARRAY [0 .. 0] OF INT := 2; k : f; t : TON; END_VAR END_PROGRAM");
        String[] good = {"v", "r[0]", "k.v", "k.r[0]", "t.Q"};
        int[] values = {1, 2, 3, 4, 0};
        for (int i = 0; i < good.length; i++) {
            Bench.watched(x, good[i], i == 4 ? 0 : 1, values[i]);
            for (String behind : new String[] {".", ".v", "[", "[0]", "]", " ", "\0", "_", "0", ";", "\n", "\t"}) {
                Bench.notWatched(x, good[i] + behind);
            }
            for (String before : new String[] {".", " ", "[", "p.", "v.", "0", "_", "-", "\0", "k", "%"}) {
                if (!(before + good[i]).equals("k.v")) {
                    Bench.notWatched(x, before + good[i]);
                }
            }
        }
        for (String wrong : new String[] {"", ".", "..", "r", "r.", "r[", "r[]", "r]", "r[0", "r0]", "r(0)", "r [0]", "r[ 0]", "r[0 ]", "r[0][0]", "r[0].v", "r[v]", "r.[0]", "k", "k.", "k..v", "k.v.v", "k .v", "k. v",
            "k[0]", "k.k", "k.r", "k.r[", "k.r.v", "t", "t.", "t.t", "t[0]", "t..Q", "v[0]", "v.", "v,v", "v:INT"}) {
            Bench.notWatched(x, wrong);
        }
    }

    /** "no blanks, letters of either size": no byte but those of the path itself. */
    private static void bytesOfPaths() {
        PlantKeeper x = Bench.loaded("PROGRAM p VAR a_Z9 : INT := 1; END_VAR END_PROGRAM");
        for (String path : new String[] {"a_Z9", "A_Z9", "a_z9", "A_z9"}) {
            Bench.watched(x, path, 1, 1);
        }
        for (int c = 0; c < 256; c++) {
            PlantKeeper y = Bench.loaded("PROGRAM p VAR ab : INT := 1; END_VAR END_PROGRAM");
            Bench.tape(y, "a" + (char) c);
            Bench.due("byte " + c + " in a name", y.watch(), c == 'b' || c == 'B' ? 1 : BAD);
            Bench.tape(y, "ab" + (char) c);
            Bench.due("byte " + c + " behind a name", y.watch(), BAD);
            Bench.tape(y, (char) c + "ab");
            Bench.due("byte " + c + " before a name", y.watch(), BAD);
        }
    }

    /** Both ends of arrays, and one further. */
    private static void indexes() {
        int[][] bounds = {{0, 0}, {0, 255}, {1, 256}, {-128, 127}, {-256, -1}, {-1, 1}, {2147483392, 2147483647}, {-2147483647, -2147483392}, {9, 11}, {99, 101}};
        for (int[] b : bounds) {
            PlantKeeper x = Bench.loaded("PROGRAM p VAR v : INT := 1; r : ARRAY [" + b[0] + " .. " + b[1] + "] OF DINT; w : INT := 2; n : DINT; END_VAR "
                + (b[0] > 2147480000 || b[0] < -2147480000 ? "r[" + b[0] + "] := " + b[0] + "; r[" + b[1] + "] := " + b[1] + ";" : "FOR n := " + b[0] + " TO " + b[1] + " DO r[n] := n; END_FOR;") + " END_PROGRAM");
            x.scan(0);
            Bench.watched(x, "r[" + b[0] + "]", 2, b[0]);
            Bench.watched(x, "r[" + b[1] + "]", 2, b[1]);
            Bench.notWatched(x, "r[" + (b[0] - 1L) + "]");
            Bench.notWatched(x, "r[" + (b[1] + 1L) + "]");
            for (long far : new long[] {4294967296L, -4294967296L, 1L << 40, 1L << 62, 65536, 256}) {
                Bench.notWatched(x, "r[" + (b[0] + far) + "]");
                Bench.notWatched(x, "r[" + (b[1] + far) + "]");
            }
            Bench.notWatched(x, "r[99999999999999999999999999999999999999999]");
            Bench.notWatched(x, "r[-99999999999999999999999999999999999999999]");
            Bench.notWatched(x, "r[18446744073709551616]");
            Bench.notWatched(x, "r[-18446744073709551616]");
        }
    }

    /** "digits, - before it if it is below 0; -0 is 0" */
    private static void indexDigits() {
        PlantKeeper x = Bench.loaded("PROGRAM p VAR r : ARRAY [-10 .. 10] OF INT; n : INT; END_VAR FOR n := -10 TO 10 DO r[n] := n; END_FOR; END_PROGRAM");
        x.scan(0);
        for (int i = -10; i <= 10; i++) {
            Bench.watched(x, "r[" + i + "]", 1, i);
        }
        Bench.watched(x, "r[-0]", 1, 0);
        Bench.watched(x, "r[00]", 1, 0);
        Bench.watched(x, "r[-00]", 1, 0);
        Bench.watched(x, "r[007]", 1, 7);
        Bench.watched(x, "r[-007]", 1, -7);
        for (String wrong : new String[] {"r[]", "r[-]", "r[--1]", "r[+1]", "r[1-]", "r[-1-]", "r[1.]", "r[.1]", "r[1..2]", "r[0x1]", "r[16#1]", "r[2#1]", "r[1_0]", "r[_1]", "r[1,2]", "r[ 1]", "r[- 1]", "r[1 ]", "r[T#1MS]",
            "r[10", "r[1", "r[00", "r[1)", "r[1}", "r(1]", "r{1]", "r]1]", "r1]", "r-1]", "r.1]", "r[a]", "r[n]", "r[/]", "r[:]", "r[1:]", "r[1/]", "r[(1)]", "r[TRUE]", "r[11]", "r[-11]", "r[1]]", "r[[1]]", "r[1][", "r1", "r[1\0]", "r[\0]"}) {
            Bench.notWatched(x, wrong);
        }
    }

    private static void instances() {
        StringBuilder text = new StringBuilder("FUNCTION_BLOCK b0 VAR_INPUT i : INT := 1; END_VAR VAR v : INT := 2; END_VAR VAR_OUTPUT o : INT := 3; END_VAR VAR r : ARRAY [-1 .. 1] OF INT := 4; t : CTU; END_VAR "
            + "END_FUNCTION_BLOCK ");
        StringBuilder path = new StringBuilder("k.");
        for (int i = 1; i <= 14; i++) {
            text.append("FUNCTION_BLOCK b").append(i).append(" VAR w : INT := ").append(100 + i).append("; k : b").append(i - 1).append("; x : BOOL; END_VAR END_FUNCTION_BLOCK ");
        }
        PlantKeeper x = Bench.loaded(text + "PROGRAM p VAR k : b14; END_VAR END_PROGRAM");
        for (int i = 14; i >= 1; i--) {
            Bench.watched(x, path + "w", 1, 100 + i);
            Bench.watched(x, path + "x", 0, 0);
            Bench.notWatched(x, path + "v");
            Bench.notWatched(x, path.substring(0, path.length() - 1));
            path.append("k.");
        }
        Bench.watched(x, path + "i", 1, 1);
        Bench.watched(x, path + "v", 1, 2);
        Bench.watched(x, path + "o", 1, 3);
        Bench.watched(x, path + "r[-1]", 1, 4);
        Bench.watched(x, path + "t.pv", 1, 0);
        Bench.notWatched(x, path + "w");
        Bench.notWatched(x, path + "k.v");
        Bench.notWatched(x, path + "t");
        Bench.notWatched(x, path + "r");
    }

    /** "for one of a standard block a . and an input or output" */
    private static void standardBlocks() {
        String[][] rows = {{"TON", "IN0 PT2 Q0 ET2"}, {"TOF", "IN0 PT2 Q0 ET2"}, {"TP", "IN0 PT2 Q0 ET2"}, {"CTU", "CU0 R0 PV1 Q0 CV1"}, {"CTD", "CD0 LD0 PV1 Q0 CV1"}, {"R_TRIG", "CLK0 Q0"}, {"F_TRIG", "CLK0 Q0"},
            {"SR", "S10 R0 Q10"}, {"RS", "S0 R10 Q10"}};
        String[] all = {"IN", "PT", "Q", "ET", "CU", "R", "PV", "CV", "CD", "LD", "CLK", "S1", "Q1", "S", "R1", "M", "L", "P", "D", "NOW"};
        for (String[] row : rows) {
            PlantKeeper x = Bench.loaded("PROGRAM p VAR k : " + row[0] + "; END_VAR END_PROGRAM");
            for (String name : all) {
                int type = BAD;
                for (String field : row[1].split(" ")) {
                    if (field.substring(0, field.length() - 1).equals(name)) {
                        type = field.charAt(field.length() - 1) - '0';
                    }
                }
                Bench.tape(x, "k." + name);
                Bench.due(row[0] + "." + name, x.watch(), type);
                Bench.tape(x, "K." + name.toLowerCase());
                Bench.due(row[0] + "." + name, x.watch(), type);
            }
        }
    }

    private static void lengthOfNames() {
        PlantKeeper x = Bench.loaded("PROGRAM p VAR " + LONG + " : INT := 5; END_VAR END_PROGRAM");
        Bench.watched(x, LONG, 1, 5);
        Bench.watched(x, LONG.toUpperCase(), 1, 5);
        Bench.notWatched(x, LONG + "3");
        Bench.notWatched(x, LONG.substring(0, 31));
        Bench.notWatched(x, LONG.substring(0, 31) + "3");
        Bench.notWatched(x, LONG + LONG);
        Bench.notWatched(x, "a".repeat(4000));
        Bench.notWatched(x, LONG + " ".repeat(4000));
    }

    private static void whatIsNoVariable() {
        PlantKeeper x = Bench.loaded("FUNCTION f : INT VAR_INPUT a : INT; END_VAR VAR b : INT; END_VAR END_FUNCTION FUNCTION_BLOCK g VAR c : INT; END_VAR END_FUNCTION_BLOCK "
            + "PROGRAM p VAR v : INT; k : g; END_VAR v := f(1); END_PROGRAM");
        for (String path : "f a b f.a f.b f.f g c g.c p p.v p.k.c ton TON.Q abs IF VAR INT k.f k.g k.v nothing %IX0 %MW0 0 1 TRUE T#1S".split(" ")) {
            Bench.notWatched(x, path);
        }
        Bench.watched(x, "v", 1, 0);
        Bench.watched(x, "k.c", 1, 0);
    }

    /** "its value, as its cell is now (also at an input or output)" */
    private static void valuesAsTheyAreNow() {
        PlantKeeper x = Bench.loaded("PROGRAM p VAR i AT %IW0 : INT; q AT %QW0 : INT := 3; m AT %MW0 : INT := 4; z : INT; END_VAR q := q + i; z := 1 / (i - 5); END_PROGRAM");
        x.safe(4, 0, -1);
        x.put(3, 0, 2);
        Bench.watched(x, "i", 1, 0);
        Bench.watched(x, "q", 1, 3);
        Bench.due("published", x.get(4, 0), 0);
        x.scan(0);
        Bench.watched(x, "i", 1, 2);
        Bench.watched(x, "q", 1, 5);
        x.put(5, 0, 9);
        Bench.watched(x, "m", 1, 9);
        x.put(3, 0, 5);
        Bench.watched(x, "i", 1, 2);
        Bench.due("fault", x.scan(0), PlantKeeper.ZERO);
        Bench.due("the safe one is published", x.get(4, 0), -1);
        Bench.watched(x, "q", 1, 10);
        Bench.watched(x, "i", 1, 5);
        x.restart();
        Bench.watched(x, "q", 1, 3);
        Bench.watched(x, "i", 1, 0);
    }

    /** "The value that was watched last; 0 at first." */
    private static void watchedStays() {
        PlantKeeper x = new PlantKeeper();
        Bench.due("at first", x.watched(), 0);
        Bench.tape(x, "v");
        Bench.due("watch", x.watch(), NONE);
        Bench.due("watched", x.watched(), 0);
        Bench.load(x, "PROGRAM p VAR v : INT := 4; w : INT := 5; END_VAR v := v + 1; END_PROGRAM");
        Bench.due("behind loading", x.watched(), 0);
        Bench.watched(x, "v", 1, 4);
        x.scan(1);
        Bench.due("as it was when it was watched", x.watched(), 4);
        Bench.notWatched(x, "u");
        Bench.due("behind BAD", x.watched(), 4);
        x.restart();
        Bench.due("behind a restart", x.watched(), 4);
        Bench.watched(x, "w", 1, 5);
        Bench.load(x, "PROGRAM");
        Bench.due("behind a fault", x.watched(), 5);
        Bench.tape(x, "w");
        Bench.due("watch", x.watch(), NONE);
        Bench.due("behind NONE", x.watched(), 5);
        Bench.load(x, "PROGRAM p VAR u : INT := 7; END_VAR END_PROGRAM");
        Bench.due("behind loading", x.watched(), 5);
        Bench.notWatched(x, "v");
        Bench.notWatched(x, "w");
        Bench.watched(x, "u", 1, 7);
    }
}
