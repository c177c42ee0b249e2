/** Promise 15: each count, before loading, behind it, behind scans, a fault, a restart, a fault of loading. */
public final class CountEdgesTest {
    private static final int BAD = PlantKeeper.BAD, NONE = PlantKeeper.NONE;
    private static final String TEXT = "FUNCTION f : INT VAR_INPUT a : INT; END_VAR f := 8 / a; END_FUNCTION PROGRAM p VAR i AT %IW0 : INT; v : INT; END_VAR IF i <> 1 THEN v := f(i); END_IF; END_PROGRAM";

    public static void main(String[] args) {
        numbers();
        life();
        faultsAndPlaces();
        instructionsAndCells();
        Bench.finish("CountEdgesTest");
    }

    private static void counts(PlantKeeper x, String when, int... want) {
        for (int i = 0; i < 10; i++) {
            Bench.due("count(" + i + ") " + when, x.count(i), want[i]);
        }
    }

    /** "BAD: another number." */
    private static void numbers() {
        for (int which : new int[] {Integer.MIN_VALUE, -2, -1, 10, 11, 255, 256, Integer.MAX_VALUE}) {
            Bench.due("count(" + which + ") with nothing loaded", new PlantKeeper().count(which), BAD);
            Bench.due("count(" + which + ")", Bench.loaded(TEXT).count(which), BAD);
        }
    }

    private static void life() {
        PlantKeeper x = new PlantKeeper();
        counts(x, "at first", 0, NONE, 0, 0, 0, 0, 0, 0, 0, 0);
        x.put(3, 0, 2);
        Bench.load(x, TEXT);
        // FUNCTION: PUSH STORE, PUSH LOAD TWO STORE; PROGRAM: LOAD PUSH TWO UNLESS, LOAD WRITE CALL READ STORE.
        counts(x, "behind loading", 0, NONE, 15, 15, 963, 0, 0, 0, 0, 0);
        x.scan(0);
        counts(x, "behind a scan by 0", 0, NONE, 15, 15, 963, 15, 1, 0, 0, 0);
        x.put(3, 0, 1);
        x.scan(100000);
        counts(x, "behind a shorter scan", 0, NONE, 15, 15, 963, 4, 2, 0, 100000, 0);
        x.put(3, 0, 0);
        x.scan(7);
        counts(x, "behind a fault", 0, NONE, 15, 15, 963, 12, 3, 0, 100007, 1);
        x.scan(7);
        x.scan(-1);
        counts(x, "behind STOPPED and BAD", 0, NONE, 15, 15, 963, 12, 3, 0, 100007, 1);
        x.restart();
        counts(x, "behind a restart", 0, NONE, 15, 15, 963, 12, 3, 0, 100007, 0);
        x.restart();
        x.put(3, 0, 2);
        x.scan(3);
        counts(x, "going on", 0, NONE, 15, 15, 963, 15, 4, 0, 100010, 0);
        Bench.load(x, TEXT, 99);
        counts(x, "behind a budget that is BAD", 0, NONE, 15, 15, 963, 15, 4, 0, 100010, 0);
        x.load(100);
        counts(x, "behind loading again", 0, NONE, 15, 15, 963, 0, 0, 0, 0, 0);
        x.scan(5);
        Bench.load(x, " PROGRAM p VAR");
        counts(x, "behind a fault of reading", 6, 14, 0, 0, 0, 0, 0, 0, 0, 0);
        x.scan(5);
        x.restart();
        counts(x, "behind NONE", 6, 14, 0, 0, 0, 0, 0, 0, 0, 0);
        Bench.load(x, TEXT, 99);
        counts(x, "behind a budget that is BAD", 6, 14, 0, 0, 0, 0, 0, 0, 0, 0);
        x.load(100);
        counts(x, "loaded again", 0, NONE, 15, 15, 963, 0, 0, 0, 0, 0);
    }

    /** Faults of each part of loading, with nothing loaded behind them. */
    private static void faultsAndPlaces() {
        String loop = "PROGRAM p VAR d, e : DINT; END_VAR FOR d := 1 TO 1000000 DO %s END_FOR; END_PROGRAM";
        Object[][] rows = {{"  $", 1, 2}, {" (*", 2, 1}, {"\n" + "a".repeat(33), 3, 1}, {"9999999999", 4, 0}, {"   %X", 5, 3}, {"PROGRAM p", 6, 9}, {"", 10, 0}, {"    ", 10, 0},
            {"PROGRAM p x := 1; END_PROGRAM", 20, 10}, {"  " + loop.formatted("FOR e := 1 TO 1000000 DO END_FOR;"), 52, 2}, {"   " + loop.formatted(""), 53, 3},
            {"  PROGRAM p VAR v:INT;END_VAR " + "v:=1;".repeat(2001) + "END_PROGRAM", 50, 0}};
        for (Object[] row : rows) {
            PlantKeeper x = Bench.loaded(TEXT);
            x.put(3, 0, 2);
            x.scan(5);
            Bench.due("load", Bench.load(x, (String) row[0]), (Integer) row[1]);
            counts(x, "behind fault " + row[1], (Integer) row[1], (Integer) row[2], 0, 0, 0, 0, 0, 0, 0, 0);
            Bench.load(x, TEXT);
            counts(x, "loaded behind fault " + row[1], 0, NONE, 15, 15, 963, 0, 0, 0, 0, 0);
        }
    }

    /** "3 instructions, 4 cells of the PROGRAM and all FUNCTIONS": of all units, but not the cells of FUNCTION_BLOCKS. */
    private static void instructionsAndCells() {
        Object[][] rows = {{"PROGRAM p END_PROGRAM", 0, 960}, {"FUNCTION f : INT END_FUNCTION PROGRAM p END_PROGRAM", 2, 961}, {"FUNCTION f : INT END_FUNCTION FUNCTION g : INT END_FUNCTION PROGRAM p END_PROGRAM", 4, 962},
            {"FUNCTION_BLOCK f VAR a : INT; END_VAR a := 1; END_FUNCTION_BLOCK PROGRAM p END_PROGRAM", 2, 960},
            {"FUNCTION_BLOCK f VAR a : INT; END_VAR a := 1; END_FUNCTION_BLOCK PROGRAM p VAR k, l : f; END_VAR END_PROGRAM", 2, 962},
            {"FUNCTION f : INT VAR a : INT := 7; END_VAR CASE a OF END_CASE; FOR a := 1 TO 2 DO END_FOR; END_FUNCTION PROGRAM p END_PROGRAM", 4 + 2 + 9, 960 + 2 + 2},
            {"FUNCTION f : BOOL LADDER RUNG >f <f; END_RUNG END_LADDER END_FUNCTION PROGRAM p END_PROGRAM", 2 + 18, 960 + 1 + 2 + 156}};
        for (Object[] row : rows) {
            PlantKeeper x = Bench.loaded((String) row[0]);
            Bench.due("instructions of " + row[0], x.count(3), (Integer) row[1]);
            Bench.due("cells of " + row[0], x.count(4), (Integer) row[2]);
        }
    }
}
