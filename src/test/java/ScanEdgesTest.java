/** Promises 5 to 9, SCANS: areas, places and values at their ends, inputs, outputs, memory, faults, beginning anew. */
public final class ScanEdgesTest {
    private static final int BAD = PlantKeeper.BAD, NONE = PlantKeeper.NONE, STOPPED = PlantKeeper.STOPPED, ZERO = PlantKeeper.ZERO, INDEX = PlantKeeper.INDEX;
    private static final String[] AREAS = {"IX", "QX", "MX", "IW", "QW", "MW"};

    public static void main(String[] args) {
        everyPlace();
        valuesOfPlaces();
        inputsComeWhenAScanBegins();
        outputsArePublishedWhenItEnds();
        memoryIsTheCells();
        ticks();
        indexOfArrays();
        indexBeforeTheNextCell();
        whatAFaultLeaves();
        faultsInUnits();
        stoppedUntil();
        constantsAtFirst();
        beginningAnew();
        loadingAnew();
        safeOutputs();
        functionsHaveTheirOwnCells();
        faultsLeaveNothingOver();
        Bench.finish("ScanEdgesTest");
    }

    private static int places(int area) {
        return area < 3 ? 256 : 64;
    }

    /** Each place of the six areas is a cell of its own: put or told by a constant, and got. */
    private static void everyPlace() {
        for (int area : new int[] {0, 2, 3, 5}) {
            PlantKeeper x = Bench.loaded("PROGRAM p END_PROGRAM");
            int n = places(area);
            for (int i = 0; i < n; i++) {
                Bench.due("put " + AREAS[area] + i, x.put(area, i, area < 3 ? i % 2 : i * 500 - 16000), 0);
            }
            for (int i = 0; i < n; i++) {
                int got = x.get(area, i);
                Bench.due("get " + AREAS[area] + i, got, area < 3 ? i % 2 : i * 500 - 16000);
            }
        }
        for (int area = 0; area < 6; area++) {
            int last = places(area) - 1;
            for (int i : new int[] {0, 1, 7, 8, last - 1, last}) {
                onePlace(area, i);
            }
        }
    }

    /** A variable at a place is that place, and no other one. */
    private static void onePlace(int area, int i) {
        boolean input = area == 0 || area == 3;
        String type = area < 3 ? "BOOL" : "INT";
        String value = area < 3 ? "TRUE" : "-32767 - 1";
        int want = area < 3 ? 1 : -32768;
        PlantKeeper x = Bench.loaded("PROGRAM p VAR v AT %" + AREAS[area] + i + " : " + type + "; w : " + type + "; END_VAR " + (input ? "w := v;" : "v := " + value + "; w := v;") + " END_PROGRAM");
        if (input) {
            x.put(area, i, want);
        }
        x.scan(0);
        Bench.watched(x, "w", area < 3 ? 0 : 1, want);
        Bench.watched(x, "v", area < 3 ? 0 : 1, want);
        for (int other = 0; other < 6; other++) {
            for (int j : new int[] {0, 1, 7, 8, places(other) - 2, places(other) - 1}) {
                Bench.due(AREAS[other] + j + " with " + AREAS[area] + i, x.get(other, j), other == area && j == i ? want : 0);
            }
        }
    }

    private static void valuesOfPlaces() {
        int[] values = {Integer.MIN_VALUE, -65536, -32769, -32768, -32767, -2, -1, 0, 1, 2, 255, 256, 32766, 32767, 32768, 65535, 65536, Integer.MAX_VALUE};
        for (int area = -1; area <= 6; area++) {
            for (int v : values) {
                boolean bits = area >= 0 && area < 3;
                boolean good = bits ? v == 0 || v == 1 : v >= -32768 && v <= 32767;
                boolean puts = area == 0 || area == 2 || area == 3 || area == 5;
                boolean safes = area == 1 || area == 4;
                PlantKeeper x = Bench.loaded("PROGRAM p END_PROGRAM");
                Bench.due("put(" + area + ", 3, " + v + ")", x.put(area, 3, v), puts && good ? 0 : BAD);
                Bench.due("safe(" + area + ", 3, " + v + ")", x.safe(area, 3, v), safes && good ? 0 : BAD);
                if (area >= 0 && area < 6) {
                    x.restart();
                    int want = good && (safes || area == 0 || area == 3) ? v : 0;
                    Bench.due("get(" + area + ", 3)", x.get(area, 3), want);
                }
            }
            for (int i : new int[] {Integer.MIN_VALUE, -257, -1, 0, 62, 63, 64, 254, 255, 256, 65535, Integer.MAX_VALUE}) {
                boolean known = area >= 0 && area < 6 && i >= 0 && i < places(area);
                boolean output = area == 1 || area == 4;
                PlantKeeper x = Bench.loaded("PROGRAM p END_PROGRAM");
                Bench.due("get(" + area + ", " + i + ")", x.get(area, i), known ? 0 : BAD);
                Bench.due("put(" + area + ", " + i + ", 1)", x.put(area, i, 1), known && !output ? 0 : BAD);
                Bench.due("safe(" + area + ", " + i + ", 1)", x.safe(area, i, 1), known && output ? 0 : BAD);
                PlantKeeper y = new PlantKeeper();
                boolean input = area == 0 || area == 3;
                Bench.due("get(" + area + ", " + i + ") with nothing loaded", y.get(area, i), !known ? BAD : input ? 0 : NONE);
                Bench.due("put(" + area + ", " + i + ", 0) with nothing loaded", y.put(area, i, 0), !known || output ? BAD : input ? 0 : NONE);
                Bench.due("safe(" + area + ", " + i + ", 1) with nothing loaded", y.safe(area, i, 1), known && output ? 0 : BAD);
            }
        }
    }

    private static void inputsComeWhenAScanBegins() {
        PlantKeeper x = Bench.loaded("PROGRAM p VAR i AT %IX255 : BOOL; w AT %IW63 : INT; a, b : INT; END_VAR a := w; b := TO_INT(i); END_PROGRAM");
        x.put(0, 255, 1);
        x.put(3, 63, 9);
        Bench.watched(x, "i", 0, 0);
        Bench.watched(x, "w", 1, 0);
        Bench.due("as it was put", x.get(3, 63), 9);
        x.scan(0);
        Bench.watched(x, "i", 0, 1);
        Bench.watched(x, "w", 1, 9);
        Bench.watched(x, "a", 1, 9);
        x.put(3, 63, 10);
        Bench.watched(x, "w", 1, 9);
        x.restart();
        Bench.watched(x, "w", 1, 0);
        Bench.due("inputs stay as they were put", x.get(3, 63), 10);
        x.scan(0);
        Bench.watched(x, "w", 1, 10);
        // Inputs that were put with nothing loaded.
        PlantKeeper y = new PlantKeeper();
        y.put(3, 0, -5);
        Bench.load(y, "PROGRAM p VAR w AT %IW0 : INT; v AT %QW0 : INT; END_VAR v := w; END_PROGRAM");
        y.scan(0);
        Bench.due("an input put before loading", y.get(4, 0), -5);
    }

    private static void outputsArePublishedWhenItEnds() {
        PlantKeeper x = Bench.loaded("PROGRAM p VAR q AT %QX255 : BOOL := TRUE; w AT %QW63 : INT := 7; i AT %IW0 : INT; END_VAR w := 1; w := w + i; q := i > 0; END_PROGRAM");
        Bench.due("safe at first", x.get(4, 63), 0);
        Bench.watched(x, "w", 1, 7);
        x.put(3, 0, 4);
        x.scan(0);
        Bench.due("as it is when the scan ends", x.get(4, 63), 5);
        Bench.due("as it is when the scan ends", x.get(1, 255), 1);
        x.put(3, 0, 0);
        Bench.due("as it was published last", x.get(4, 63), 5);
        x.scan(0);
        Bench.due("published anew", x.get(4, 63), 1);
        Bench.due("published anew", x.get(1, 255), 0);
    }

    private static void memoryIsTheCells() {
        PlantKeeper x = Bench.loaded("PROGRAM p VAR m AT %MX255 : BOOL := TRUE; w AT %MW63 : INT := -32768; END_VAR w := w - 1; m := NOT m; END_PROGRAM");
        Bench.due("its constant", x.get(2, 255), 1);
        Bench.due("its constant", x.get(5, 63), -32768);
        x.scan(0);
        Bench.due("memory as it is", x.get(5, 63), 32767);
        Bench.due("memory as it is", x.get(2, 255), 0);
        x.put(5, 63, 100);
        Bench.watched(x, "w", 1, 100);
        x.put(2, 255, 1);
        Bench.watched(x, "m", 0, 1);
        x.scan(0);
        Bench.due("goes on from what was put", x.get(5, 63), 99);
        Bench.due("goes on from what was put", x.get(2, 255), 0);
    }

    /** "BAD: ticks are not 0 .. 100,000" */
    private static void ticks() {
        PlantKeeper x = Bench.loaded("PROGRAM p VAR n AT %MW0 : INT; END_VAR n := n + 1; END_PROGRAM");
        int now = 0;
        int scans = 0;
        for (int by : new int[] {0, 1, 99999, 100000, 100001, -1, Integer.MIN_VALUE, Integer.MAX_VALUE, 0, 100000}) {
            boolean good = by >= 0 && by <= 100000;
            Bench.due("scan(" + by + ")", x.scan(by), good ? 4 : BAD);
            now += good ? by : 0;
            scans += good ? 1 : 0;
            Bench.due("NOW", x.count(8), now);
            Bench.due("scans", x.count(6), scans);
            Bench.due("runs", x.get(5, 0), scans);
        }
    }

    /** "the fault INDEX, if i - l, reckoned without a bound, is not 0 .. n - 1" */
    private static void indexOfArrays() {
        long[][] bounds = {{0, 0}, {0, 3}, {-2, 2}, {1, 256}, {-256, -1}, {2147483644L, 2147483647L}, {-2147483647L, -2147483640L}, {32766, 32769}};
        for (long[] b : bounds) {
            long[] tried = {b[0] - 1, b[0], b[0] + 1, b[1] - 1, b[1], b[1] + 1, -2147483647L, 2147483647L, 0, b[0] + 65536, b[1] - 65536, b[0] - b[1] - 2};
            for (long i : tried) {
                if (i < -2147483647L || i > 2147483647L) {
                    continue;
                }
                boolean within = i >= b[0] && i <= b[1];
                String vars = "PROGRAM p VAR d : DINT := " + i + "; r : ARRAY [" + b[0] + " .. " + b[1] + "] OF INT := 4; v : INT; n : INT := 6; END_VAR ";
                PlantKeeper x = Bench.loaded(vars + "v := r[d]; n := 7; END_PROGRAM");
                Bench.due("take " + i + " of " + b[0] + " .. " + b[1], x.scan(0), within ? 5 : INDEX);
                Bench.watched(x, "v", 1, within ? 4 : 0);
                Bench.watched(x, "n", 1, within ? 7 : 6);
                Bench.due("steps", x.count(5), within ? 5 : 2);
                PlantKeeper y = Bench.loaded(vars + "r[d] := 5; n := 7; END_PROGRAM");
                Bench.due("put " + i + " of " + b[0] + " .. " + b[1], y.scan(0), within ? 5 : INDEX);
                Bench.watched(y, "r[" + (within ? i : b[0]) + "]", 1, within ? 5 : 4);
                Bench.watched(y, "n", 1, within ? 7 : 6);
                Bench.due("steps", y.count(5), within ? 5 : 3);
            }
        }
        // An index that is a constant is not judged before it is run.
        PlantKeeper z = Bench.loaded("PROGRAM p VAR r : ARRAY [0 .. 3] OF INT; END_VAR r[4] := 1; END_PROGRAM");
        Bench.due("a constant out of bounds", z.scan(0), INDEX);
    }

    /** What lies before and behind an array is never touched. */
    private static void indexBeforeTheNextCell() {
        PlantKeeper x = Bench.loaded("PROGRAM p VAR i AT %IW0 : INT; a : INT := 11; r : ARRAY [0 .. 3] OF INT; b : INT := 22; END_VAR r[i] := 5; END_PROGRAM");
        for (int i = -2; i <= 5; i++) {
            x.put(3, 0, i);
            Bench.due("put at " + i, x.scan(0), i >= 0 && i <= 3 ? 3 : INDEX);
            Bench.watched(x, "a", 1, 11);
            Bench.watched(x, "b", 1, 22);
            for (int j = 0; j <= 3; j++) {
                Bench.watched(x, "r[" + j + "]", 1, j == i ? 5 : 0);
            }
            x.restart();
        }
    }

    /** "that instruction is a step, too; it is a scan that counts, with its steps": "Cells stay as they are". */
    private static void whatAFaultLeaves() {
        PlantKeeper x = Bench.loaded("PROGRAM p VAR i AT %IW0 : INT; q AT %QW0 : INT; m AT %MW0 : INT; v : INT; r : ARRAY [0 .. 1] OF INT; END_VAR q := 5; m := 6; v := 7; r[0] := 10 / i; v := 8; q := 9; END_PROGRAM");
        x.safe(4, 0, -1);
        x.put(3, 0, 3);
        Bench.due("scan", x.scan(2), 15);
        Bench.due("published", x.get(4, 0), 9);
        x.put(3, 0, 0);
        Bench.due("scan", x.scan(3), ZERO);
        Bench.due("steps", x.count(5), 10);
        Bench.due("scans", x.count(6), 2);
        Bench.due("NOW", x.count(8), 5);
        Bench.due("stopped", x.count(9), 1);
        Bench.due("the safe outputs are published", x.get(4, 0), -1);
        Bench.watched(x, "q", 1, 5);
        Bench.watched(x, "v", 1, 7);
        Bench.watched(x, "r[0]", 1, 3);
        Bench.due("memory", x.get(5, 0), 6);
        Bench.due("memory can be put", x.put(5, 0, 60), 0);
        Bench.due("memory", x.get(5, 0), 60);
        Bench.due("inputs can be put", x.put(3, 0, 1), 0);
        Bench.due("scan", x.scan(3), STOPPED);
        Bench.watched(x, "i", 1, 0);
        Bench.due("NOW", x.count(8), 5);
        Bench.replied(x, new int[] {1, 4, 0, 64, 0, 1}, 1, 4, 2, 255, 255);
        Bench.replied(x, new int[] {1, 3, 0, 0, 0, 1}, 1, 3, 2, 0, 60);
    }

    private static void faultsInUnits() {
        String f = "FUNCTION f : INT VAR_INPUT a : INT; END_VAR f := 100 / a; END_FUNCTION ";
        String g = "FUNCTION_BLOCK g VAR_INPUT a : INT; END_VAR VAR r : ARRAY [1 .. 2] OF INT; n : INT; END_VAR n := 1; r[a] := f(a); n := 2; END_FUNCTION_BLOCK ";
        String p = "PROGRAM p VAR i AT %IW0 : INT; k : g; n : INT; END_VAR n := 1; k(a := i); n := 2; END_PROGRAM";
        int[] inputs = {0, 1, 2, 3};
        int[] answers = {ZERO, 0, 0, INDEX};
        for (int i = 0; i < 4; i++) {
            PlantKeeper x = Bench.loaded(f + g + p);
            x.put(3, 0, inputs[i]);
            int steps = x.scan(1);
            Bench.due("scan with " + inputs[i], answers[i] == 0 ? 0 : steps, answers[i]);
            Bench.watched(x, "n", 1, answers[i] == 0 ? 2 : 1);
            Bench.watched(x, "k.n", 1, answers[i] == 0 ? 2 : 1);
            // PUSH STORE, LOAD STORE ENTER; PUSH STORE, LOAD LOAD WRITE CALL; PUSH STORE PUSH LOAD TWO, STORE; READ PUT; PUSH STORE; PUSH STORE.
            Bench.due("steps", x.count(5), answers[i] == ZERO ? 16 : answers[i] == INDEX ? 19 : 23);
            // The next scan begins with nothing left over.
            x.put(3, 0, 1);
            x.restart();
            Bench.due("scan", x.scan(1), 23);
        }
    }

    /** "nothing is run any more, until a restart or loading" */
    private static void stoppedUntil() {
        String text = "PROGRAM p VAR i AT %IW0 : INT; v : INT; END_VAR v := 1 / i; END_PROGRAM";
        PlantKeeper x = Bench.loaded(text);
        Bench.due("scan", x.scan(1), ZERO);
        for (int i = 0; i < 3; i++) {
            Bench.due("scan", x.scan(1), STOPPED);
        }
        x.put(3, 0, 1);
        Bench.due("scan", x.scan(1), STOPPED);
        Bench.due("restart", x.restart(), 0);
        Bench.due("scan", x.scan(1), 4);
        x.put(3, 0, 0);
        Bench.due("scan", x.scan(1), ZERO);
        Bench.due("load(99) is no loading", Bench.load(x, text, 99), BAD);
        Bench.due("scan", x.scan(1), STOPPED);
        Bench.due("load", x.load(100), 0);
        Bench.due("stopped", x.count(9), 0);
        Bench.due("scan", x.scan(1), ZERO);
        Bench.due("load of a fault", Bench.load(x, "PROGRAM"), 6);
        Bench.due("stopped", x.count(9), 0);
        Bench.due("scan", x.scan(1), NONE);
        Bench.due("restart", x.restart(), NONE);
    }

    /** "all cells are as their constants say (of an ARRAY each element), 0 without" */
    private static void constantsAtFirst() {
        PlantKeeper x = Bench.loaded("FUNCTION_BLOCK f VAR_INPUT i : INT := 3; j : BOOL; END_VAR VAR r : ARRAY [-1 .. 1] OF DINT := -99999; t : TON; END_VAR VAR_OUTPUT o : BOOL := TRUE; END_VAR END_FUNCTION_BLOCK "
            + "FUNCTION_BLOCK g VAR a, b : f; v, w : INT := -5; END_VAR END_FUNCTION_BLOCK "
            + "PROGRAM p VAR a : INT := -32768; b : INT := 32767; c : DINT := 2147483647; d : BOOL := TRUE; e : BOOL := FALSE; h, i : DINT := 7; k : g; l : f; r : ARRAY [1 .. 256] OF BOOL := TRUE; "
            + "q : ARRAY [0 .. 1] OF INT; z : INT; END_VAR k(); l(i := 8, j := TRUE); z := 9; r[5] := FALSE; q[0] := 1; END_PROGRAM");
        for (int turn = 0; turn < 2; turn++) {
            Object[][] rows = {{"a", 1, -32768}, {"b", 1, 32767}, {"c", 2, 2147483647}, {"d", 0, 1}, {"e", 0, 0}, {"h", 2, 7}, {"i", 2, 7}, {"k.a.i", 1, 3}, {"k.b.i", 1, 3}, {"k.b.j", 0, 0},
                {"k.a.r[-1]", 2, -99999}, {"k.b.r[1]", 2, -99999}, {"k.b.o", 0, 1}, {"k.v", 1, -5}, {"k.w", 1, -5}, {"l.i", 1, 3}, {"l.j", 0, 0}, {"l.o", 0, 1}, {"l.t.pt", 2, 0}, {"r[1]", 0, 1}, {"r[5]", 0, 1},
                {"r[256]", 0, 1}, {"q[0]", 1, 0}, {"q[1]", 1, 0}, {"z", 1, 0}};
            for (Object[] row : rows) {
                Bench.watched(x, (String) row[0], (Integer) row[1], (Integer) row[2]);
            }
            x.scan(5);
            Bench.watched(x, "z", 1, 9);
            Bench.watched(x, "l.i", 1, 8);
            Bench.watched(x, "r[5]", 0, 0);
            x.restart();
        }
    }

    /** "What is loaded begins anew, as behind loading, but NOW goes on" */
    private static void beginningAnew() {
        PlantKeeper x = Bench.loaded("PROGRAM p VAR t : TON; q AT %QX0 : BOOL := TRUE; m AT %MW0 : INT; n : INT := 4; END_VAR t(IN := TRUE, PT := 100); m := m + 1; n := n + 1; END_PROGRAM");
        x.safe(1, 1, 1);
        x.scan(60);
        x.scan(60);
        Bench.watched(x, "t.et", 2, 60);
        Bench.due("published", x.get(1, 0), 1);
        Bench.due("restart", x.restart(), 0);
        Bench.due("safe ones are published", x.get(1, 0), 0);
        Bench.due("safe ones are published", x.get(1, 1), 1);
        Bench.due("memory", x.get(5, 0), 0);
        Bench.watched(x, "n", 1, 4);
        Bench.watched(x, "t.et", 2, 0);
        Bench.watched(x, "q", 0, 1);
        int[] want = {0, NONE, x.count(2), x.count(3), x.count(4), x.count(3), 2, 0, 120, 0};
        for (int which = 0; which < 10; which++) {
            Bench.due("count " + which, x.count(which), want[which]);
        }
        x.scan(50);
        Bench.watched(x, "t.et", 2, 0);
        x.scan(50);
        Bench.watched(x, "t.et", 2, 50);
        Bench.due("NOW", x.count(8), 220);
        Bench.due("restart", x.restart(), 0);
        Bench.due("restart again", x.restart(), 0);
        Bench.due("scans", x.count(6), 4);
    }

    private static void loadingAnew() {
        PlantKeeper x = Bench.loaded("PROGRAM p VAR a AT %MW0 : INT; b AT %QW0 : INT; v : INT := 3; END_VAR a := a + 1; b := 9; v := v + 1; END_PROGRAM");
        x.scan(5);
        Bench.due("load", Bench.load(x, "PROGRAM p VAR a AT %MW0 : INT; b AT %QW0 : INT; w : INT; v : INT; END_VAR a := a + 1; END_PROGRAM"), 0);
        Bench.due("memory", x.get(5, 0), 0);
        Bench.due("published", x.get(4, 0), 0);
        Bench.watched(x, "v", 1, 0);
        Bench.watched(x, "w", 1, 0);
        Bench.watched(x, "b", 1, 0);
        Bench.due("NOW", x.count(8), 0);
        Bench.due("scan", x.scan(0), 4);
        Bench.due("memory", x.get(5, 0), 1);
    }

    /** "It is published when the keeper stops the next time, or begins anew." */
    private static void safeOutputs() {
        PlantKeeper x = Bench.loaded("PROGRAM p VAR i AT %IW0 : INT; END_VAR END_PROGRAM");
        for (int area : new int[] {1, 4}) {
            for (int i : new int[] {0, 1, places(area) - 1}) {
                int v = area == 1 ? 1 : -32768;
                Bench.due("safe", x.safe(area, i, v), 0);
                Bench.due("not published", x.get(area, i), 0);
            }
        }
        x.scan(0);
        Bench.due("not published", x.get(1, 255), 0);
        x.restart();
        for (int area : new int[] {1, 4}) {
            for (int i : new int[] {0, 1, places(area) - 1}) {
                Bench.due("published", x.get(area, i), area == 1 ? 1 : -32768);
            }
            Bench.due("others stay", x.get(area, 2), 0);
        }
        x.scan(0);
        Bench.due("the program's own", x.get(4, 63), 0);
        Bench.due("safe again", x.safe(4, 63, 32767), 0);
        Bench.load(x, "PROGRAM p VAR v : INT; END_VAR v := 1 / v; END_PROGRAM");
        Bench.due("published behind loading", x.get(4, 63), 32767);
        x.safe(4, 63, 1);
        Bench.due("not yet", x.get(4, 63), 32767);
        Bench.due("scan", x.scan(0), ZERO);
        Bench.due("published as it stops", x.get(4, 63), 1);
        x.safe(4, 63, 2);
        Bench.due("it has stopped before", x.scan(0), STOPPED);
        Bench.due("not published", x.get(4, 63), 1);
        x.restart();
        Bench.due("published", x.get(4, 63), 2);
    }

    /** Cells of FUNCTIONS lie behind the PROGRAM's, and behind one another: no call changes another one's. */
    private static void functionsHaveTheirOwnCells() {
        StringBuilder names = new StringBuilder("q0");
        for (int i = 1; i < 900; i++) {
            names.append(",q").append(Integer.toString(i, 36));
        }
        PlantKeeper x = Bench.loaded("FUNCTION f:INT VAR_INPUT a:INT;END_VAR VAR " + names + ":INT:=77;END_VAR f:=a+q0;END_FUNCTION PROGRAM p VAR v:INT:=5;i AT %IX0:BOOL;w:INT;END_VAR w:=f(v);END_PROGRAM");
        x.scan(0);
        Bench.watched(x, "w", 1, 82);
        Bench.watched(x, "v", 1, 5);
        Bench.watched(x, "i", 0, 0);
        for (int area = 0; area < 6; area++) {
            for (int i = 0; i < places(area); i += 3) {
                Bench.due(AREAS[area] + i, x.get(area, i), 0);
            }
        }
        PlantKeeper y = Bench.loaded("FUNCTION f : INT VAR_INPUT a, b : INT; END_VAR VAR c, d, e : INT := 3; END_VAR c := 1000; d := 2000; e := 4000; f := a * 10 + b; END_FUNCTION "
            + "FUNCTION g : INT VAR_INPUT a, b : INT; END_VAR VAR c, d, e : INT := 5; END_VAR g := f(b, a) + a + b + c + d + e; END_FUNCTION "
            + "FUNCTION h : INT VAR_INPUT a, b : INT; END_VAR VAR c, d, e : INT := 7; END_VAR h := g(b, a) + f(1, 1) + a + b + c + d + e; END_FUNCTION "
            + "PROGRAM p VAR i AT %IX0 : BOOL; j AT %IX1 : BOOL; v, w : INT := 9; x, y : INT; END_VAR x := h(1, 2); y := g(3, 4) + h(5, 6); END_PROGRAM");
        y.scan(0);
        // f(a, b) is 10 a + b; g(a, b) is f(b, a) + a + b + 15; h(a, b) is g(b, a) + 11 + a + b + 21.
        Bench.watched(y, "x", 1, (12 + 3 + 15) + 11 + 3 + 21);
        Bench.watched(y, "y", 1, (43 + 7 + 15) + (56 + 11 + 15) + 11 + 11 + 21);
        Bench.watched(y, "v", 1, 9);
        Bench.watched(y, "w", 1, 9);
        Bench.watched(y, "i", 0, 0);
        Bench.watched(y, "j", 0, 0);
    }

    /** Numbers that lay on the stack when a scan came to a fault are gone, however often that was. */
    private static void faultsLeaveNothingOver() {
        String nine = "f(1, 2, 3, 4, 5, 6, 7, ".repeat(9);
        String f = "FUNCTION f : INT VAR_INPUT a, b, c, d, e, g, h, i : INT; END_VAR f := i + a; END_FUNCTION ";
        String g = "FUNCTION g : INT VAR_INPUT x : INT; END_VAR g := " + nine.substring(nine.length() / 9) + "100 / x" + ")".repeat(8) + "; END_FUNCTION ";
        PlantKeeper x = Bench.loaded(f + g + "PROGRAM p VAR i AT %IW0 : INT; v : INT; END_VAR v := " + nine + "g(i)" + ")".repeat(9) + "; END_PROGRAM");
        for (int turn = 0; turn < 40; turn++) {
            Bench.due("fault", x.scan(1), ZERO);
            Bench.due("restart", x.restart(), 0);
        }
        x.put(3, 0, 2);
        Bench.due("scan", x.scan(1), x.count(2));
        Bench.watched(x, "v", 1, 50 + 8 + 9);
    }
}
