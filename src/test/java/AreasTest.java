/** Promises 6 to 8: put, get, safe. */
public final class AreasTest {
    private static final int BAD = PlantKeeper.BAD, NONE = PlantKeeper.NONE;

    public static void main(String[] args) {
        nothingLoaded();
        wrongCalls();
        edges();
        safeOutputs();
        kept();
        Bench.finish("AreasTest");
    }

    private static void nothingLoaded() {
        PlantKeeper x = new PlantKeeper();
        Bench.due("put input", x.put(0, 0, 1), 0);
        Bench.due("put input", x.put(3, 63, -7), 0);
        Bench.due("get input", x.get(0, 0), 1);
        Bench.due("get input", x.get(3, 63), -7);
        Bench.due("put memory", x.put(2, 0, 1), NONE);
        Bench.due("put memory", x.put(5, 0, 1), NONE);
        Bench.due("put a wrong value in memory", x.put(2, 0, 2), BAD);
        Bench.due("put at a wrong place of memory", x.put(5, 64, 1), BAD);
        for (int area : new int[] {1, 2, 4, 5}) {
            Bench.due("get " + area, x.get(area, 0), NONE);
            Bench.due("get a wrong place of " + area, x.get(area, 256), BAD);
        }
        Bench.due("safe", x.safe(1, 0, 1), 0);
    }

    private static void wrongCalls() {
        PlantKeeper x = Bench.loaded("PROGRAM p END_PROGRAM");
        for (int area = -1; area <= 6; area++) {
            boolean bits = area >= 0 && area <= 2;
            boolean known = area >= 0 && area <= 5;
            boolean output = area == 1 || area == 4;
            int places = bits ? 256 : 64;
            int least = bits ? 0 : -32768;
            int most = bits ? 1 : 32767;
            int put = known && !output ? 0 : BAD;
            int safe = output ? 0 : BAD;
            for (int v : new int[] {least, most}) {
                Bench.due("put " + area, x.put(area, 0, v), put);
                Bench.due("put " + area, x.put(area, places - 1, v), put);
                Bench.due("safe " + area, x.safe(area, 0, v), safe);
                Bench.due("safe " + area, x.safe(area, places - 1, v), safe);
            }
            for (int v : new int[] {least - 1, most + 1, Integer.MIN_VALUE, Integer.MAX_VALUE}) {
                Bench.due("put " + v, x.put(area, 0, v), BAD);
                Bench.due("safe " + v, x.safe(area, 0, v), BAD);
            }
            for (int i : new int[] {-1, places, Integer.MIN_VALUE, Integer.MAX_VALUE}) {
                Bench.due("put at " + i, x.put(area, i, 0), BAD);
                Bench.due("safe at " + i, x.safe(area, i, 0), BAD);
                Bench.due("get at " + i, x.get(area, i), BAD);
            }
            Bench.due("get " + area, x.get(area, places - 1), !known ? BAD : output ? 0 : most);
        }
    }

    private static void edges() {
        PlantKeeper x = Bench.loaded("PROGRAM p VAR a AT %IX255 : BOOL; b AT %IW63 : INT; c AT %QX255 : BOOL; d AT %QW63 : INT; "
            + "e AT %MX255 : BOOL; f AT %MW63 : INT; g AT %QX0 : BOOL; h AT %QW0 : INT; END_VAR c := a AND e; d := b + f; g := e; h := f; END_PROGRAM");
        x.put(0, 255, 1);
        x.put(3, 63, 30000);
        x.put(2, 255, 1);
        x.put(5, 63, -32768);
        Bench.due("memory at once", x.get(5, 63), -32768);
        x.scan(1);
        Bench.due("QX255", x.get(1, 255), 1);
        Bench.due("QW63", x.get(4, 63), -2768);
        Bench.due("QX0", x.get(1, 0), 1);
        Bench.due("QW0", x.get(4, 0), -32768);
        Bench.due("QX1", x.get(1, 1), 0);
        Bench.due("IX255", x.get(0, 255), 1);
        Bench.due("MX255", x.get(2, 255), 1);
    }

    /** What is not written stays as it is, at both ends of the areas. */
    private static void kept() {
        PlantKeeper x = Bench.loaded("PROGRAM p VAR a AT %QX0 : BOOL := TRUE; b AT %QX255 : BOOL := TRUE; c AT %MX0 : BOOL := TRUE; d AT %MX255 : BOOL := TRUE; "
            + "e AT %QW0 : INT := 5; f AT %QW63 : INT := 6; g AT %MW0 : INT := 7; h AT %MW63 : INT := 8; END_VAR END_PROGRAM");
        for (int i = 0; i < 2; i++) {
            x.scan(1);
            int[][] rows = {{1, 0, 1}, {1, 255, 1}, {2, 0, 1}, {2, 255, 1}, {4, 0, 5}, {4, 63, 6}, {5, 0, 7}, {5, 63, 8}, {1, 1, 0}, {4, 1, 0}};
            for (int[] row : rows) {
                Bench.due("area " + row[0] + " at " + row[1], x.get(row[0], row[1]), row[2]);
            }
        }
    }

    private static void safeOutputs() {
        PlantKeeper x = new PlantKeeper();
        x.safe(1, 255, 1);
        x.safe(4, 63, -5);
        Bench.load(x, "PROGRAM p VAR i AT %IW0 : INT; q AT %QW63 : INT := 4; n : INT; END_VAR q := 7; n := 1 / i; END_PROGRAM");
        Bench.due("safe bit", x.get(1, 255), 1);
        Bench.due("safe word", x.get(4, 63), -5);
        x.put(3, 0, 1);
        x.scan(1);
        Bench.due("bit", x.get(1, 255), 0);
        Bench.due("word", x.get(4, 63), 7);
        Bench.due("safe", x.safe(4, 63, 32767), 0);
        Bench.due("not published yet", x.get(4, 63), 7);
        x.scan(1);
        Bench.due("not published yet", x.get(4, 63), 7);
        x.put(3, 0, 0);
        Bench.due("fault", x.scan(1), PlantKeeper.ZERO);
        Bench.due("safe word", x.get(4, 63), 32767);
        Bench.due("safe bit", x.get(1, 255), 1);
        x.safe(4, 63, 1);
        Bench.due("published as it was", x.get(4, 63), 32767);
        x.scan(1);
        Bench.due("published as it was", x.get(4, 63), 32767);
        x.restart();
        Bench.due("begins anew", x.get(4, 63), 1);
    }
}
