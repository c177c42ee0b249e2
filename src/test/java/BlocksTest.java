/** Promise 9: the standard blocks. */
public final class BlocksTest {
    public static void main(String[] args) {
        timerOn();
        timerOff();
        pulse();
        negativeTimes();
        skippedTimer();
        countUp();
        countDown();
        triggers();
        bistables();
        Bench.finish("BlocksTest");
    }

    /** A program that calls one timer with IN from %IX0 and PT from %IW0, each scan. */
    private static PlantKeeper timer(String kind) {
        return Bench.loaded("PROGRAM p VAR t : " + kind + "; i AT %IX0 : BOOL; w AT %IW0 : INT; END_VAR t(IN := i, PT := w); END_PROGRAM");
    }

    /** Rows of ticks, IN, PT, and Q and ET, which are due. */
    private static void timed(String kind, int[]... rows) {
        PlantKeeper x = timer(kind);
        int i = 0;
        for (int[] row : rows) {
            x.put(0, 0, row[1]);
            x.put(3, 0, row[2]);
            Bench.due("scan", x.scan(row[0]), 5);
            Bench.watched(x, "t.q", 0, row[3]);
            Bench.watched(x, "t.et", 2, row[4]);
            i++;
            if (x.watched() != row[4]) {
                System.out.println(kind + " row " + i);
            }
        }
    }

    private static int[] row(int... numbers) {
        return numbers;
    }

    private static void timerOn() {
        timed("TON", row(5, 0, 10, 0, 0), row(5, 1, 10, 0, 0), row(4, 1, 10, 0, 4), row(5, 1, 10, 0, 9), row(1, 1, 10, 1, 10),
            row(9, 1, 10, 1, 10), row(0, 1, 20, 0, 10), row(3, 1, 20, 0, 13), row(0, 1, 5, 1, 5), row(0, 0, 5, 0, 0), row(100000, 1, 5, 0, 0),
            row(100000, 1, 5, 1, 5));
        timed("TON", row(7, 1, 0, 1, 0), row(1, 0, 0, 0, 0));
    }

    private static void timerOff() {
        timed("TOF", row(5, 0, 10, 0, 0), row(5, 1, 10, 1, 0), row(5, 1, 10, 1, 0), row(5, 0, 10, 1, 0), row(9, 0, 10, 1, 9), row(1, 0, 10, 0, 10),
            row(7, 0, 10, 0, 10), row(1, 1, 10, 1, 0), row(1, 0, 0, 0, 0), row(1, 0, 5, 0, 0), row(1, 1, 5, 1, 0), row(1, 0, 5, 1, 0),
            row(2, 1, 5, 1, 0), row(2, 0, 5, 1, 0), row(9, 0, 5, 0, 5));
    }

    private static void pulse() {
        timed("TP", row(1, 0, 10, 0, 0), row(1, 1, 10, 1, 0), row(4, 0, 10, 1, 4), row(4, 1, 10, 1, 8), row(4, 1, 10, 0, 10), row(4, 1, 10, 0, 10),
            row(1, 0, 10, 0, 0), row(1, 1, 10, 1, 0), row(12, 0, 10, 0, 0), row(1, 1, 10, 1, 0), row(5, 0, 10, 1, 5), row(7, 1, 10, 1, 0),
            row(10, 1, 10, 0, 10));
        timed("TP", row(1, 1, 0, 0, 0), row(1, 1, 5, 0, 0), row(1, 0, 5, 0, 0), row(1, 1, 5, 1, 0), row(1, 1, 1, 0, 1));
    }

    private static void negativeTimes() {
        timed("TON", row(1, 1, -5, 1, 0), row(1, 1, -5, 1, 0), row(1, 1, 3, 0, 1));
        timed("TOF", row(1, 1, -5, 1, 0), row(1, 0, -5, 0, 0));
        timed("TP", row(1, 1, -5, 0, 0));
    }

    /** A timer that is not called in each scan reckons from the last call on. */
    private static void skippedTimer() {
        PlantKeeper x = Bench.loaded("PROGRAM p VAR t : TON; i AT %IX0 : BOOL; END_VAR IF i THEN t(IN := TRUE, PT := T#1S); END_IF; END_PROGRAM");
        x.put(0, 0, 1);
        x.scan(10);
        x.put(0, 0, 0);
        x.scan(300);
        x.scan(300);
        Bench.watched(x, "t.et", 2, 0);
        x.put(0, 0, 1);
        x.scan(1);
        Bench.watched(x, "t.et", 2, 601);
        x.restart();
        x.scan(5);
        Bench.watched(x, "t.et", 2, 0);
        x.scan(5);
        Bench.watched(x, "t.et", 2, 5);
        PlantKeeper y = Bench.loaded("PROGRAM p VAR t : TON; END_VAR t(IN := TRUE, PT := 5); t(); t(IN := FALSE); t(IN := TRUE); END_PROGRAM");
        y.scan(9);
        Bench.watched(y, "t.q", 0, 0);
        Bench.watched(y, "t.pt", 2, 5);
        Bench.watched(y, "t.in", 0, 1);
    }

    private static void counted(String kind, String inputs, int[]... rows) {
        PlantKeeper x = Bench.loaded("PROGRAM p VAR c : " + kind + "; i AT %IX0 : BOOL; j AT %IX1 : BOOL; w AT %IW0 : INT; END_VAR c(" + inputs
            + ", PV := w); END_PROGRAM");
        for (int[] row : rows) {
            x.put(0, 0, row[0]);
            x.put(0, 1, row[1]);
            x.put(3, 0, row[2]);
            Bench.due("scan", x.scan(1), 7);
            Bench.watched(x, "c.Q", 0, row[3]);
            Bench.watched(x, "c.CV", 1, row[4]);
        }
    }

    private static void countUp() {
        counted("CTU", "CU := i, R := j", row(0, 0, 2, 0, 0), row(1, 0, 2, 0, 1), row(1, 0, 2, 0, 1), row(0, 0, 2, 0, 1), row(1, 0, 2, 1, 2),
            row(0, 0, 2, 1, 2), row(1, 0, 9, 0, 3), row(0, 1, 9, 0, 0), row(1, 1, 0, 1, 0), row(1, 0, 1, 0, 0), row(0, 0, -1, 1, 0));
        PlantKeeper x = Bench.loaded("PROGRAM p VAR c : CTU; i : INT; END_VAR FOR i := 1 TO 5000 DO c(CU := TRUE); c(CU := FALSE); END_FOR; END_PROGRAM");
        for (int i = 1; i <= 8; i++) {
            x.scan(1);
            Bench.watched(x, "c.cv", 1, Math.min(5000 * i, 32767));
        }
    }

    private static void countDown() {
        counted("CTD", "CD := i, LD := j", row(0, 0, 2, 1, 0), row(0, 1, 2, 0, 2), row(1, 0, 5, 0, 1), row(1, 0, 5, 0, 1), row(0, 0, 5, 0, 1),
            row(1, 0, 5, 1, 0), row(0, 0, 5, 1, 0), row(1, 0, 5, 1, -1), row(1, 1, 5, 0, 5), row(1, 0, 5, 0, 5), row(0, 1, -32768, 1, -32768),
            row(1, 0, 5, 1, -32768));
    }

    private static void triggers() {
        PlantKeeper x = Bench.loaded("PROGRAM p VAR r : R_TRIG; f : F_TRIG; i AT %IX0 : BOOL; END_VAR r(CLK := i); f(CLK := i); END_PROGRAM");
        int[][] rows = {{0, 0, 0}, {1, 1, 0}, {1, 0, 0}, {0, 0, 1}, {0, 0, 0}, {1, 1, 0}, {0, 0, 1}};
        for (int[] row : rows) {
            x.put(0, 0, row[0]);
            x.scan(1);
            Bench.watched(x, "r.q", 0, row[1]);
            Bench.watched(x, "f.q", 0, row[2]);
        }
    }

    private static void bistables() {
        PlantKeeper x = Bench.loaded("PROGRAM p VAR s : SR; r : RS; i AT %IX0 : BOOL; j AT %IX1 : BOOL; END_VAR s(S1 := i, R := j); r(S := i, R1 := j); END_PROGRAM");
        int[][] rows = {{0, 0, 0, 0}, {1, 0, 1, 1}, {0, 0, 1, 1}, {0, 1, 0, 0}, {0, 0, 0, 0}, {1, 1, 1, 0}, {0, 0, 1, 0}, {0, 1, 0, 0}};
        for (int[] row : rows) {
            x.put(0, 0, row[0]);
            x.put(0, 1, row[1]);
            x.scan(1);
            Bench.watched(x, "s.q1", 0, row[2]);
            Bench.watched(x, "r.q1", 0, row[3]);
        }
    }
}
