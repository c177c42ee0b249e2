import java.util.function.ToIntFunction;

/** THE TAPE, and all promises: what answers BAD or NONE changes nothing but the tape; the order of BAD, NONE, STOPPED. */
public final class RefusedTest {
    private static final int BAD = PlantKeeper.BAD, NONE = PlantKeeper.NONE, STOPPED = PlantKeeper.STOPPED;
    private static final int LEAST = Integer.MIN_VALUE, MOST = Integer.MAX_VALUE;
    private static final String[] STATES = {"new", "refused", "loaded", "scanned", "stopped", "begun anew"};
    private static final String LEFT = "left on the tape";
    private static final String TEXT = "PROGRAM p VAR i AT %IW0 : INT; b AT %IX7 : BOOL; q AT %QX1 : BOOL := TRUE; w AT %QW7 : INT := 3; m AT %MX255 : BOOL; "
        + "n AT %MW63 : INT := -4; v : INT := 6; r : ARRAY [-1 .. 1] OF INT := 2; t : TON; END_VAR t(IN := b, PT := 500); q := b; w := w + 1; m := NOT m; n := n - 1; "
        + "v := 100 / i; r[0] := v; END_PROGRAM";

    public static void main(String[] args) {
        for (String state : STATES) {
            boolean loaded = !state.equals("new") && !state.equals("refused");
            ends(state);
            budgets(state);
            puts(state);
            gets(state);
            safes(state);
            numbers(state);
            paths(state, loaded);
            if (!loaded) {
                withNothingLoaded(state);
            }
        }
        whenStopped();
        fullTape();
        orderOfAnswers();
        loadWithABadBudget();
        failedLoad();
        Bench.finish("RefusedTest");
    }

    /** An object in one of the states, with all that can be set from outside set. */
    private static PlantKeeper in(String state) {
        PlantKeeper x = new PlantKeeper();
        x.put(0, 7, 1);
        x.put(3, 0, 5);
        x.put(3, 63, -32768);
        x.safe(1, 0, 1);
        x.safe(4, 1, -77);
        x.station(9);
        if (state.equals("new")) {
            return x;
        }
        Bench.load(x, TEXT);
        Bench.tape(x, "v");
        x.watch();
        Bench.tape(x, Bench.sealed(9, 3, 0, 63, 0, 1));
        x.frame();
        if (state.equals("refused")) {
            Bench.load(x, "  PROGRAM");
        }
        if (state.equals("scanned") || state.equals("stopped") || state.equals("begun anew")) {
            x.scan(10);
            x.scan(20);
        }
        if (state.equals("stopped") || state.equals("begun anew")) {
            x.put(3, 0, 0);
            x.scan(5);
        }
        if (state.equals("begun anew")) {
            x.restart();
        }
        return x;
    }

    /**
     * A call on a new object in a state is due to answer something, to leave so many bytes on the
     * tape, and to change nothing else: neither what can be asked now nor what comes of it later.
     */
    private static void refused(String state, String tape, String what, ToIntFunction<PlantKeeper> call, int want, int left) {
        PlantKeeper x = in(state);
        Bench.tape(x, tape);
        String before = Bench.state(x);
        Bench.due(state + ": " + what, call.applyAsInt(x), want);
        Bench.dueText("state behind " + what, Bench.state(x), before);
        Bench.due("tape behind " + what, Bench.onTape(x), left);
        Bench.tape(x, "$");
        x.watch();
        Bench.dueText("what comes behind " + what, rest(x), rest(in(state)));
    }

    private static void refused(String state, String what, ToIntFunction<PlantKeeper> call, int want) {
        refused(state, LEFT, what, call, want, LEFT.length());
    }

    private static String rest(PlantKeeper x) {
        StringBuilder all = new StringBuilder();
        all.append(x.scan(7)).append(Bench.state(x)).append(x.restart()).append(Bench.state(x));
        x.put(3, 0, 4);
        all.append(x.scan(100)).append(x.scan(100)).append(Bench.state(x));
        for (String path : new String[] {"i", "b", "v", "r[-1]", "r[0]", "t.et", "t.q"}) {
            Bench.tape(x, path);
            all.append(' ').append(x.watch()).append(' ').append(x.watched());
        }
        return all.toString();
    }

    private static void ends(String state) {
        for (int n : new int[] {0, 1, 19, 20}) {
            refused(state, "", "end(" + n + ") with nothing on the tape", x -> x.end(n), BAD, 0);
            refused(state, "nineteen bytes here", "end(" + n + ") with nineteen bytes", x -> x.end(n), BAD, 19);
        }
        for (int n : new int[] {-1, 21, LEAST, MOST}) {
            refused(state, "there are twenty bytes", "end(" + n + ")", x -> x.end(n), BAD, 22);
        }
    }

    private static void budgets(String state) {
        for (int n : new int[] {99, 100001, 0, -1, LEAST, MOST}) {
            refused(state, "PROGRAM p END_PROGRAM", "load(" + n + ")", x -> x.load(n), BAD, 21);
        }
    }

    private static void puts(String state) {
        int[][] rows = {{-1, 0, 0}, {1, 0, 0}, {1, 0, 1}, {4, 0, 1}, {6, 0, 0}, {LEAST, 0, 0}, {MOST, 0, 0}, {0, -1, 0}, {0, 256, 1}, {2, -1, 1}, {2, 256, 0}, {3, -1, 0},
            {3, 64, 0}, {5, -1, 0}, {5, 64, 0}, {5, LEAST, 0}, {0, MOST, 0}, {0, 7, -1}, {0, 7, 2}, {2, 255, -1}, {2, 255, 2}, {3, 0, -32769}, {3, 0, 32768}, {5, 63, -32769},
            {5, 63, 32768}, {5, 63, LEAST}, {3, 63, MOST}};
        for (int[] r : rows) {
            refused(state, "put(" + r[0] + ", " + r[1] + ", " + r[2] + ")", x -> x.put(r[0], r[1], r[2]), BAD);
        }
    }

    private static void gets(String state) {
        int[][] rows = {{-1, 0}, {6, 0}, {LEAST, 0}, {MOST, 0}, {0, -1}, {0, 256}, {1, -1}, {1, 256}, {2, -1}, {2, 256}, {3, -1}, {3, 64}, {4, -1}, {4, 64}, {5, -1}, {5, 64},
            {0, LEAST}, {5, MOST}};
        for (int[] r : rows) {
            refused(state, "get(" + r[0] + ", " + r[1] + ")", x -> x.get(r[0], r[1]), BAD);
        }
    }

    private static void safes(String state) {
        int[][] rows = {{-1, 0, 0}, {0, 0, 1}, {2, 0, 1}, {3, 0, 1}, {5, 0, 1}, {6, 0, 0}, {LEAST, 0, 0}, {MOST, 0, 0}, {1, -1, 1}, {1, 256, 1}, {4, -1, 1}, {4, 64, 1},
            {1, 0, -1}, {1, 0, 2}, {4, 1, -32769}, {4, 1, 32768}, {4, 1, LEAST}, {1, MOST, 0}};
        for (int[] r : rows) {
            refused(state, "safe(" + r[0] + ", " + r[1] + ", " + r[2] + ")", x -> x.safe(r[0], r[1], r[2]), BAD);
        }
    }

    private static void numbers(String state) {
        for (int n : new int[] {-1, 100001, LEAST, MOST}) {
            refused(state, "scan(" + n + ")", x -> x.scan(n), BAD);
        }
        for (int n : new int[] {0, 248, -1, LEAST, MOST}) {
            refused(state, "station(" + n + ")", x -> x.station(n), BAD);
        }
        for (int n : new int[] {-1, state.equals("new") ? 0 : 7, 256, LEAST, MOST}) {
            refused(state, "byteAt(" + n + ")", x -> x.byteAt(n), BAD);
        }
        for (int n : new int[] {-1, 10, LEAST, MOST}) {
            refused(state, "count(" + n + ")", x -> x.count(n), BAD);
        }
    }

    private static void paths(String state, boolean loaded) {
        for (String path : new String[] {"", "nothing", "r[2]", "t", "v.v", "v "}) {
            refused(state, path, "watch() of " + path, PlantKeeper::watch, loaded ? BAD : NONE, 0);
        }
    }

    private static void withNothingLoaded(String state) {
        refused(state, "v", "watch() of v", PlantKeeper::watch, NONE, 0);
        refused(state, "scan(0)", x -> x.scan(0), NONE);
        refused(state, "scan(100000)", x -> x.scan(100000), NONE);
        refused(state, "restart()", PlantKeeper::restart, NONE);
        for (int area : new int[] {1, 2, 4, 5}) {
            refused(state, "get(" + area + ", 0)", x -> x.get(area, 0), NONE);
            refused(state, "get(" + area + ", 63)", x -> x.get(area, 63), NONE);
        }
        for (int[] r : new int[][] {{2, 0, 0}, {2, 255, 1}, {5, 0, -32768}, {5, 63, 32767}}) {
            refused(state, "put(" + r[0] + ", " + r[1] + ", " + r[2] + ")", x -> x.put(r[0], r[1], r[2]), NONE);
        }
    }

    private static void whenStopped() {
        refused("stopped", "scan(0)", x -> x.scan(0), STOPPED);
        refused("stopped", "scan(100000)", x -> x.scan(100000), STOPPED);
    }

    /** feed() that is BAD changes nothing: neither the number of bytes nor one of them. */
    private static void fullTape() {
        for (int size = 16363; size <= 16384; size++) {
            PlantKeeper x = new PlantKeeper();
            Bench.tape(x, "PROGRAM p" + " ".repeat(size - 20) + "END_PROGRAM");
            int dollars = 0x24242424;
            boolean room = size + 20 <= 16384;
            Bench.due("feed behind " + size, x.feed(dollars, dollars, dollars, dollars, dollars), room ? size + 20 : BAD);
            Bench.due("end behind " + size, x.end(20), room ? size + 20 : size);
            Bench.due("load of " + size, x.load(100), room ? 1 : 0);
            Bench.due("place", x.count(1), room ? size : NONE);
        }
    }

    private static void orderOfAnswers() {
        for (String state : new String[] {"new", "refused"}) {
            PlantKeeper x = in(state);
            Bench.due("BAD before NONE: scan", x.scan(-1), BAD);
            Bench.due("BAD before NONE: scan", x.scan(100001), BAD);
            Bench.due("NONE: scan", x.scan(0), NONE);
            Bench.due("BAD before NONE: put", x.put(2, 0, 2), BAD);
            Bench.due("BAD before NONE: put", x.put(5, 64, 0), BAD);
            Bench.due("BAD before NONE: get", x.get(1, 256), BAD);
            Bench.due("BAD before NONE: get", x.get(5, -1), BAD);
            Bench.tape(x, "$");
            Bench.due("NONE before BAD: watch", x.watch(), NONE);
        }
        PlantKeeper y = in("stopped");
        Bench.due("BAD before STOPPED: scan", y.scan(-1), BAD);
        Bench.due("BAD before STOPPED: scan", y.scan(100001), BAD);
        Bench.due("STOPPED: scan", y.scan(0), STOPPED);
        Bench.load(y, "PROGRAM");
        Bench.due("NONE, as nothing is loaded any more", y.scan(0), NONE);
        Bench.due("BAD before NONE: scan", y.scan(-1), BAD);
    }

    /** The tape and what is loaded stay: scans go on, and the same text loads behind it. */
    private static void loadWithABadBudget() {
        PlantKeeper x = in("scanned");
        Bench.tape(x, "PROGRAM q VAR z : INT := 5; END_VAR END_PROGRAM");
        Bench.due("load(99)", x.load(99), BAD);
        Bench.due("scan goes on", x.scan(1), x.count(3));
        Bench.due("load(100001)", x.load(100001), BAD);
        Bench.due("load(100)", x.load(100), 0);
        Bench.watched(x, "z", 1, 5);
        PlantKeeper y = new PlantKeeper();
        Bench.tape(y, "PROGRAM");
        Bench.due("load(0)", y.load(0), BAD);
        Bench.due("no fault", y.count(0), 0);
        Bench.due("no place", y.count(1), NONE);
        Bench.due("load(100000)", y.load(100000), 6);
        Bench.due("load(99)", y.load(99), BAD);
        Bench.due("the fault stays", y.count(0), 6);
        Bench.due("its place stays", y.count(1), 7);
    }

    /** A load that is refused makes the keeper forget what was loaded, and nothing more. */
    private static void failedLoad() {
        PlantKeeper x = in("scanned");
        PlantKeeper y = in("scanned");
        Bench.load(x, "PROGRAM");
        Bench.due("input", x.get(0, 7), 1);
        Bench.due("input", x.get(3, 63), -32768);
        Bench.due("watched", x.watched(), y.watched());
        Bench.due("out", x.byteAt(3), y.byteAt(3));
        Bench.due("out", x.byteAt(6), y.byteAt(6));
        Bench.due("station", x.station(9), 9);
        for (int which = 2; which <= 9; which++) {
            Bench.due("count " + which, x.count(which), 0);
        }
        Bench.load(x, TEXT);
        Bench.due("safe output", x.get(4, 1), -77);
        Bench.due("safe output", x.get(1, 0), 1);
        Bench.due("memory", x.get(5, 63), -4);
    }
}
