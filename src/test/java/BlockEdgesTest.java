import java.util.Random;

/** Promise 9, BLOCKS: each standard block against the document's words, in long runs and at its edges. */
public final class BlockEdgesTest {
    public static void main(String[] args) {
        for (int seed = 0; seed < 60; seed++) {
            timers(new Random(seed), new int[] {0, 1, 2, 3}, new long[] {-1, 0, 1, 2, 3, 5});
            timers(new Random(100 + seed), new int[] {0, 1, 50000, 99999, 100000}, new long[] {-2147483647, -1, 0, 1, 99999, 100000, 100001, 2147483647});
            counters(new Random(seed));
            others(new Random(seed));
        }
        countersAtTheEnds();
        timesAtTheEnds();
        severalCallsInOneScan();
        whatIsNotTold();
        ownCells();
        Bench.finish("BlockEdgesTest");
    }

    /** TON, TOF and TP as the document tells them, in numbers without a bound. */
    private static final class Timer {
        private final int kind;
        private boolean q;
        private long et;
        private boolean m;
        private long l;

        Timer(int kind) {
            this.kind = kind;
        }

        void call(boolean in, long pt, long now) {
            long d = now - l;
            long p = Math.max(pt, 0);
            if (kind == 0) {
                if (!in) {
                    q = false;
                    et = 0;
                } else {
                    et = !m ? 0 : Math.min(p, et + d);
                    q = et >= p;
                }
            } else if (kind == 1) {
                if (in) {
                    q = true;
                    et = 0;
                } else if (m) {
                    et = 0;
                    q = p > 0;
                } else if (q) {
                    et = Math.min(p, et + d);
                    q = et < p;
                }
            } else {
                if (q) {
                    et = Math.min(p, et + d);
                    if (et >= p) {
                        q = false;
                    }
                }
                if (!q) {
                    if (in && !m) {
                        et = 0;
                        q = p > 0;
                    } else if (!in) {
                        et = 0;
                    }
                }
            }
            m = in;
            l = now;
        }
    }

    private static void timers(Random random, int[] ticks, long[] times) {
        PlantKeeper x = Bench.loaded("PROGRAM p VAR a : TON; b : TOF; c : TP; i AT %IX0 : BOOL; j AT %IX1 : BOOL; h AT %IW0 : INT; l AT %IW1 : INT; d : DINT; qa AT %QX0 : BOOL; qb AT %QX1 : BOOL; "
            + "qc AT %QX2 : BOOL; END_VAR d := SHL(TO_DINT(h), 16) OR TO_DINT(l) AND 65535; IF NOT j THEN a(IN := i, PT := d); b(IN := i, PT := d); c(IN := i, PT := d); END_IF; "
            + "qa := a.Q; qb := b.Q; qc := c.Q; END_PROGRAM");
        Timer[] model = {new Timer(0), new Timer(1), new Timer(2)};
        long now = 0;
        boolean in = false;
        for (int turn = 0; turn < 24; turn++) {
            in = random.nextInt(3) == 0 ? !in : in;
            boolean skip = random.nextInt(8) == 0;
            long pt = times[random.nextInt(times.length)];
            int by = ticks[random.nextInt(ticks.length)];
            x.put(0, 0, in ? 1 : 0);
            x.put(0, 1, skip ? 1 : 0);
            x.put(3, 0, (int) (pt >> 16));
            x.put(3, 1, (short) pt);
            now += by;
            x.scan(by);
            String[] names = {"a", "b", "c"};
            for (int k = 0; k < 3; k++) {
                if (!skip) {
                    model[k].call(in, pt, now);
                }
                Bench.due("Q of " + names[k] + " in turn " + turn, x.get(1, k), model[k].q ? 1 : 0);
                Bench.watched(x, names[k] + ".et", 2, (int) model[k].et);
            }
        }
    }

    private static void counters(Random random) {
        PlantKeeper x = Bench.loaded("PROGRAM p VAR a : CTU; b : CTD; i AT %IX0 : BOOL; j AT %IX1 : BOOL; w AT %IW0 : INT; q AT %QX0 : BOOL; r AT %QX1 : BOOL; v AT %QW0 : INT; u AT %QW1 : INT; END_VAR "
            + "a(CU := i, R := j, PV := w); b(CD := i, LD := j, PV := w); q := a.Q; r := b.Q; v := a.CV; u := b.CV; END_PROGRAM");
        int[] limits = {-32768, -32767, -1, 0, 1, 2, 3, 32766, 32767};
        int up = 0;
        int down = 0;
        boolean before = false;
        for (int turn = 0; turn < 50; turn++) {
            boolean in = random.nextBoolean();
            boolean set = random.nextInt(6) == 0;
            int pv = limits[random.nextInt(limits.length)];
            x.put(0, 0, in ? 1 : 0);
            x.put(0, 1, set ? 1 : 0);
            x.put(3, 0, pv);
            x.scan(1);
            up = set ? 0 : in && !before && up < 32767 ? up + 1 : up;
            down = set ? pv : in && !before && down > -32768 ? down - 1 : down;
            before = in;
            Bench.due("CV of CTU", x.get(4, 0), up);
            Bench.due("Q of CTU", x.get(1, 0), up >= pv ? 1 : 0);
            Bench.due("CV of CTD", x.get(4, 1), down);
            Bench.due("Q of CTD", x.get(1, 1), down <= 0 ? 1 : 0);
        }
    }

    private static void others(Random random) {
        PlantKeeper x = Bench.loaded("PROGRAM p VAR a : R_TRIG; b : F_TRIG; c : SR; d : RS; i AT %IX0 : BOOL; j AT %IX1 : BOOL; q AT %QX0 : BOOL; r AT %QX1 : BOOL; s AT %QX2 : BOOL; t AT %QX3 : BOOL; "
            + "END_VAR a(CLK := i); b(CLK := i); c(S1 := i, R := j); d(S := i, R1 := j); q := a.Q; r := b.Q; s := c.Q1; t := d.Q1; END_PROGRAM");
        boolean before = false;
        boolean sr = false;
        boolean rs = false;
        for (int turn = 0; turn < 50; turn++) {
            boolean in = random.nextBoolean();
            boolean set = random.nextBoolean();
            x.put(0, 0, in ? 1 : 0);
            x.put(0, 1, set ? 1 : 0);
            x.scan(1);
            sr = in || !set && sr;
            rs = !set && (in || rs);
            Bench.due("R_TRIG", x.get(1, 0), in && !before ? 1 : 0);
            Bench.due("F_TRIG", x.get(1, 1), !in && before ? 1 : 0);
            Bench.due("SR", x.get(1, 2), sr ? 1 : 0);
            Bench.due("RS", x.get(1, 3), rs ? 1 : 0);
            before = in;
        }
    }

    /** "CV < 32,767: CV + 1", "CV > -32,768: CV - 1" */
    private static void countersAtTheEnds() {
        PlantKeeper x = Bench.loaded("PROGRAM p VAR c : CTU; n : INT; v AT %QW0 : INT; q AT %QX0 : BOOL; END_VAR FOR n := 1 TO 4095 DO c(CU := TRUE, PV := 32767); c(CU := FALSE); END_FOR; v := c.CV; q := c.Q; "
            + "END_PROGRAM");
        for (int i = 1; i <= 10; i++) {
            x.scan(1);
            Bench.due("CV", x.get(4, 0), Math.min(4095 * i, 32767));
            Bench.due("Q", x.get(1, 0), 4095 * i >= 32767 ? 1 : 0);
        }
        PlantKeeper y = Bench.loaded("PROGRAM p VAR c : CTD; i AT %IX0 : BOOL; l AT %IX1 : BOOL; w AT %IW0 : INT; v AT %QW0 : INT; q AT %QX0 : BOOL; END_VAR c(CD := i, LD := l, PV := w); v := c.CV; q := c.Q; "
            + "END_PROGRAM");
        int[][] rows = {{0, 1, -32766, -32766, 1}, {1, 0, 0, -32767, 1}, {0, 0, 0, -32767, 1}, {1, 0, 0, -32768, 1}, {0, 0, 0, -32768, 1}, {1, 0, 0, -32768, 1}, {0, 1, 1, 1, 0}, {1, 0, 0, 0, 1},
            {0, 1, 32767, 32767, 0}, {1, 1, 5, 5, 0}, {1, 0, 5, 5, 0}, {0, 0, 5, 5, 0}, {1, 0, 5, 4, 0}};
        for (int[] row : rows) {
            y.put(0, 0, row[0]);
            y.put(0, 1, row[1]);
            y.put(3, 0, row[2]);
            y.scan(1);
            Bench.due("CV", y.get(4, 0), row[3]);
            Bench.due("Q", y.get(1, 0), row[4]);
        }
    }

    /** One tick before the time, at it, and behind it. */
    private static void timesAtTheEnds() {
        for (int behind = -1; behind <= 1; behind++) {
            PlantKeeper x = Bench.loaded("PROGRAM p VAR a : TON; b : TOF; c : TP; i AT %IX0 : BOOL; END_VAR a(IN := i, PT := 1000); b(IN := NOT i, PT := 1000); c(IN := i, PT := 1000); END_PROGRAM");
            x.scan(7);
            Bench.watched(x, "a.q", 0, 0);
            Bench.watched(x, "b.q", 0, 1);
            Bench.watched(x, "c.q", 0, 0);
            x.put(0, 0, 1);
            x.scan(7);
            Bench.watched(x, "a.q", 0, 0);
            Bench.watched(x, "b.q", 0, 1);
            Bench.watched(x, "c.q", 0, 1);
            x.scan(600);
            x.scan(400 + behind);
            Bench.watched(x, "a.q", 0, behind < 0 ? 0 : 1);
            Bench.watched(x, "a.et", 2, behind < 0 ? 999 : 1000);
            Bench.watched(x, "b.q", 0, behind < 0 ? 1 : 0);
            Bench.watched(x, "b.et", 2, behind < 0 ? 999 : 1000);
            Bench.watched(x, "c.q", 0, behind < 0 ? 1 : 0);
            Bench.watched(x, "c.et", 2, behind < 0 ? 999 : 1000);
        }
        // P is PT, or 0 if that is less.
        for (int pt = -2; pt <= 1; pt++) {
            PlantKeeper x = Bench.loaded("PROGRAM p VAR a : TON; b : TOF; c : TP; i AT %IX0 : BOOL; END_VAR a(IN := i, PT := " + pt + "); b(IN := NOT i, PT := " + pt + "); c(IN := i, PT := " + pt
                + "); END_PROGRAM");
            x.scan(5);
            x.put(0, 0, 1);
            x.scan(5);
            Bench.watched(x, "a.q", 0, pt > 0 ? 0 : 1);
            Bench.watched(x, "b.q", 0, pt > 0 ? 1 : 0);
            Bench.watched(x, "c.q", 0, pt > 0 ? 1 : 0);
            Bench.watched(x, "a.pt", 2, pt);
            x.scan(5);
            Bench.watched(x, "a.et", 2, Math.max(pt, 0));
            Bench.watched(x, "b.et", 2, Math.max(pt, 0));
            Bench.watched(x, "c.et", 2, Math.max(pt, 0));
        }
    }

    /** NOW is the same within a scan: d is 0 from the second call on. */
    private static void severalCallsInOneScan() {
        PlantKeeper x = Bench.loaded("PROGRAM p VAR a : TON; r : R_TRIG; n : INT; v AT %QX0 : BOOL; w AT %QX1 : BOOL; END_VAR FOR n := 1 TO 5 DO a(IN := TRUE, PT := 100); END_FOR; r(CLK := TRUE); "
            + "v := r.Q; r(); w := r.Q; END_PROGRAM");
        x.scan(30);
        Bench.watched(x, "a.et", 2, 0);
        Bench.due("an edge", x.get(1, 0), 1);
        Bench.due("none any more", x.get(1, 1), 0);
        x.scan(30);
        Bench.watched(x, "a.et", 2, 30);
        Bench.due("none", x.get(1, 0), 0);
    }

    /** "an input that is not told keeps what it was, its constant at first" */
    private static void whatIsNotTold() {
        PlantKeeper x = Bench.loaded("FUNCTION_BLOCK f VAR_INPUT a : INT := 5; b : INT; END_VAR VAR_OUTPUT s : INT; END_VAR s := a * 10 + b; END_FUNCTION_BLOCK "
            + "PROGRAM p VAR k : f; t : TON; c : CTU; i AT %IX0 : BOOL; END_VAR IF i THEN k(a := 7); t(IN := TRUE, PT := 50); c(PV := 3); ELSE k(b := 2); t(); c(CU := TRUE); END_IF; END_PROGRAM");
        x.scan(1);
        Bench.watched(x, "k.s", 1, 52);
        Bench.watched(x, "t.in", 0, 0);
        Bench.watched(x, "c.q", 0, 1);
        x.put(0, 0, 1);
        x.scan(1);
        Bench.watched(x, "k.s", 1, 72);
        Bench.watched(x, "c.cu", 0, 1);
        Bench.watched(x, "c.pv", 1, 3);
        Bench.watched(x, "c.cv", 1, 1);
        x.put(0, 0, 0);
        x.scan(10);
        Bench.watched(x, "k.s", 1, 72);
        Bench.watched(x, "t.in", 0, 1);
        Bench.watched(x, "t.et", 2, 10);
        x.restart();
        Bench.watched(x, "k.a", 1, 5);
        Bench.watched(x, "c.pv", 1, 0);
    }

    /** Instances side by side do not share a cell: each is called with its own inputs. */
    private static void ownCells() {
        String[] kinds = {"TON", "TOF", "TP", "CTU", "CTD", "R_TRIG", "F_TRIG", "SR", "RS"};
        String[] calls = {"IN := TRUE, PT := 3", "IN := TRUE, PT := 3", "IN := TRUE, PT := 3", "CU := TRUE, PV := 3", "LD := TRUE, PV := 3", "CLK := TRUE", "CLK := TRUE", "S1 := TRUE", "S := TRUE"};
        int[] cells = {6, 6, 6, 6, 6, 3, 3, 3, 3};
        for (int k = 0; k < kinds.length; k++) {
            PlantKeeper x = Bench.loaded("PROGRAM p VAR u : INT := 11; a, b, c : " + kinds[k] + "; v : INT := 22; END_VAR b(" + calls[k] + "); END_PROGRAM");
            Bench.due("cells with three " + kinds[k], x.count(4), 962 + 3 * cells[k]);
            x.scan(9);
            x.scan(9);
            Bench.watched(x, "u", 1, 11);
            Bench.watched(x, "v", 1, 22);
            for (String name : new String[] {"a", "c"}) {
                for (String field : "IN PT CU CD LD R PV CLK S1 S R1 Q ET CV Q1".split(" ")) {
                    Bench.tape(x, name + "." + field);
                    if (x.watch() != PlantKeeper.BAD) {
                        Bench.due(kinds[k] + " " + name + "." + field, x.watched(), 0);
                    }
                }
            }
        }
    }
}
