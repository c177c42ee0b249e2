/** Promise 15: count. */
public final class CountTest {
    public static void main(String[] args) {
        PlantKeeper x = new PlantKeeper();
        counts(x, 0, PlantKeeper.NONE, 0, 0, 0, 0, 0, 0, 0, 0);
        for (int which : new int[] {-1, 10, Integer.MIN_VALUE, Integer.MAX_VALUE}) {
            Bench.due("count(" + which + ")", x.count(which), PlantKeeper.BAD);
        }
        Bench.load(x, " PROGRAM p VAR VAR");
        counts(x, 6, 15, 0, 0, 0, 0, 0, 0, 0, 0);
        String text = "PROGRAM p VAR i AT %IW0 : INT; n : INT; END_VAR IF i > 5 THEN n := 10 / (i - 7); END_IF; END_PROGRAM";
        Bench.load(x, text);
        counts(x, 0, PlantKeeper.NONE, 10, 10, 961, 0, 0, 0, 0, 0);
        Bench.due("scan", x.scan(9), 4);
        counts(x, 0, PlantKeeper.NONE, 10, 10, 961, 4, 1, 0, 9, 0);
        x.put(3, 0, 6);
        Bench.due("scan", x.scan(0), 10);
        counts(x, 0, PlantKeeper.NONE, 10, 10, 961, 10, 2, 0, 9, 0);
        Bench.tape(x, text);
        Bench.due("load(99)", x.load(99), PlantKeeper.BAD);
        counts(x, 0, PlantKeeper.NONE, 10, 10, 961, 10, 2, 0, 9, 0);
        x.put(3, 0, 7);
        Bench.due("scan", x.scan(100000), PlantKeeper.ZERO);
        counts(x, 0, PlantKeeper.NONE, 10, 10, 961, 9, 3, 0, 100009, 1);
        x.scan(5);
        counts(x, 0, PlantKeeper.NONE, 10, 10, 961, 9, 3, 0, 100009, 1);
        x.restart();
        counts(x, 0, PlantKeeper.NONE, 10, 10, 961, 9, 3, 0, 100009, 0);
        Bench.due("scan", x.scan(1), PlantKeeper.ZERO);
        counts(x, 0, PlantKeeper.NONE, 10, 10, 961, 9, 4, 0, 100010, 1);
        // The text still lies on the tape.
        Bench.due("load", x.load(100), 0);
        counts(x, 0, PlantKeeper.NONE, 10, 10, 961, 0, 0, 0, 0, 0);
        x.scan(3);
        Bench.load(x, "  PROGRAM p VAR a : INT; END_VAR FOR a := 1 TO 30 DO END_FOR; END_PROGRAM", 100);
        counts(x, 53, 2, 0, 0, 0, 0, 0, 0, 0, 0);
        Bench.finish("CountTest");
    }

    private static void counts(PlantKeeper x, int... want) {
        for (int i = 0; i < want.length; i++) {
            Bench.due("count(" + i + ")", x.count(i), want[i]);
        }
    }
}
