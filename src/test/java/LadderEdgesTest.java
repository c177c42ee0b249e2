import java.util.Random;

/** Promise 9, CODE of 23: rungs of all sizes by chance, against a model of their powers; their instructions and cells. */
public final class LadderEdgesTest {
    private static final int INPUTS = 6, OUTPUTS = 8;

    public static void main(String[] args) {
        Random random = new Random(23);
        for (int run = 0; run < 700; run++) {
            oneRung(random, 1 + random.nextInt(12), 1 + random.nextInt(12));
        }
        for (int n = 0; n < 12; n++) {
            oneRung(random, 12, 12);
            oneRung(random, 1, 12);
            oneRung(random, 12, 1);
            oneRung(random, 1, 1);
        }
        severalRungs();
        coils();
        edgesInTwoRungs();
        inBlocks();
        Bench.finish("LadderEdgesTest");
    }

    private static String variables() {
        StringBuilder text = new StringBuilder("PROGRAM p VAR ");
        for (int i = 0; i < INPUTS; i++) {
            text.append("i").append(i).append(" AT %IX").append(i).append(" : BOOL; ");
        }
        for (int i = 0; i < OUTPUTS; i++) {
            text.append("o").append(i).append(" AT %QX").append(i).append(" : BOOL; ");
        }
        return text.append("END_VAR LADDER ").toString();
    }

    /** The cells of a rung: 0 to 3 contacts by their values, 4 a wire, 5 a gap, 6 to 9 coils; and what they name. */
    private static final class Rung {
        final int rows;
        final int columns;
        final int[][] cell;
        final int[][] name;
        final boolean[][] linked;
        final boolean[][] before;

        Rung(Random random, int rows, int columns) {
            this.rows = rows;
            this.columns = columns;
            cell = new int[rows][columns];
            name = new int[rows][columns];
            linked = new boolean[rows][columns];
            before = new boolean[rows][columns];
            for (int r = 0; r < rows; r++) {
                for (int c = 0; c < columns; c++) {
                    boolean last = c == columns - 1;
                    cell[r][c] = last && random.nextInt(3) > 0 ? 6 + random.nextInt(4) : random.nextInt(8) % 6;
                    name[r][c] = cell[r][c] >= 6 ? random.nextInt(OUTPUTS) : random.nextInt(INPUTS + OUTPUTS);
                    linked[r][c] = r < rows - 1 && !last && random.nextInt(3) == 0;
                }
            }
        }

        private static String called(int name) {
            return name < INPUTS ? "i" + name : "o" + (name - INPUTS);
        }

        String text() {
            StringBuilder text = new StringBuilder("RUNG ");
            for (int r = 0; r < rows; r++) {
                for (int c = 0; c < columns; c++) {
                    switch (cell[r][c]) {
                        case 4: text.append("-"); break;
                        case 5: text.append("*"); break;
                        case 6: text.append("(o").append(name[r][c]).append(")"); break;
                        case 7: text.append("(/o").append(name[r][c]).append(")"); break;
                        case 8: text.append("(+o").append(name[r][c]).append(")"); break;
                        case 9: text.append("(-o").append(name[r][c]).append(")"); break;
                        default: text.append(new String[] {"", "/", ">", "<"}[cell[r][c]]).append(called(name[r][c]));
                    }
                    text.append(linked[r][c] ? " | " : " ");
                }
                text.append("; ");
            }
            return text.append("END_RUNG ").toString();
        }

        int edges() {
            int sum = 0;
            for (int[] row : cell) {
                for (int kind : row) {
                    sum += kind == 2 || kind == 3 ? 1 : 0;
                }
            }
            return sum;
        }

        /** What a cell that is no gap takes besides the power to its left. */
        private static int length(int kind) {
            return new int[] {2, 3, 7, 7, 0}[kind];
        }

        int instructions() {
            int sum = 0;
            for (int c = 0; c < columns; c++) {
                for (int first = 0; first < rows;) {
                    int last = first;
                    while (linked[last][c]) {
                        last++;
                    }
                    if (cell[first][c] < 6) {
                        int ways = 0;
                        for (int r = first; r <= last; r++) {
                            if (cell[r][c] != 5) {
                                sum += 1 + length(cell[r][c]);
                                ways++;
                            }
                        }
                        sum += (ways == 0 ? 1 : ways - 1) + 1;
                    }
                    first = last + 1;
                }
            }
            for (int r = 0; r < rows; r++) {
                int kind = cell[r][columns - 1];
                sum += kind >= 6 ? new int[] {2, 3, 4, 5}[kind - 6] : 0;
            }
            return sum;
        }

        void run(boolean[] values) {
            boolean[] power = new boolean[rows];
            java.util.Arrays.fill(power, true);
            boolean[] behind = power;
            for (int c = 0; c < columns; c++) {
                boolean[] left = behind;
                boolean[] right = new boolean[rows];
                for (int first = 0; first < rows;) {
                    int last = first;
                    while (linked[last][c]) {
                        last++;
                    }
                    boolean any = false;
                    for (int r = first; r <= last; r++) {
                        if (cell[r][c] < 5) {
                            any |= left[r] & passes(r, c, values);
                        }
                    }
                    for (int r = first; r <= last; r++) {
                        right[r] = cell[r][c] < 6 ? any : left[r];
                    }
                    first = last + 1;
                }
                behind = right;
            }
            for (int r = 0; r < rows; r++) {
                int kind = cell[r][columns - 1];
                int at = INPUTS + name[r][columns - 1];
                if (kind == 6) {
                    values[at] = behind[r];
                } else if (kind == 7) {
                    values[at] = !behind[r];
                } else if (kind == 8) {
                    values[at] |= behind[r];
                } else if (kind == 9) {
                    values[at] &= !behind[r];
                }
            }
        }

        private boolean passes(int r, int c, boolean[] values) {
            boolean now = values[name[r][c]];
            boolean was = before[r][c];
            switch (cell[r][c]) {
                case 0: return now;
                case 1: return !now;
                case 2: before[r][c] = now; return now && !was;
                case 3: before[r][c] = now; return !now && was;
                default: return true;
            }
        }
    }

    private static void oneRung(Random random, int rows, int columns) {
        check(random, new Rung(random, rows, columns));
    }

    private static void check(Random random, Rung... rungs) {
        StringBuilder text = new StringBuilder(variables());
        int instructions = 0;
        int edges = 0;
        for (Rung rung : rungs) {
            text.append(rung.text());
            instructions += rung.instructions();
            edges += rung.edges();
        }
        text.append("END_LADDER END_PROGRAM");
        PlantKeeper x = Bench.loaded(text.toString());
        Bench.due("instructions of " + text, x.count(3), instructions);
        Bench.due("bound of " + text, x.count(2), instructions);
        Bench.due("cells of " + text, x.count(4), 960 + edges + 156);
        boolean[] values = new boolean[INPUTS + OUTPUTS];
        for (int turn = 0; turn < 12; turn++) {
            for (int i = 0; i < INPUTS; i++) {
                values[i] = random.nextBoolean();
                x.put(0, i, values[i] ? 1 : 0);
            }
            Bench.due("scan", x.scan(1), instructions);
            for (Rung rung : rungs) {
                rung.run(values);
            }
            for (int i = 0; i < OUTPUTS; i++) {
                Bench.due("output " + i + " of " + text, x.get(1, i), values[INPUTS + i] ? 1 : 0);
            }
        }
    }

    private static void severalRungs() {
        Random random = new Random(29);
        for (int run = 0; run < 150; run++) {
            Rung[] rungs = new Rung[1 + random.nextInt(5)];
            for (int i = 0; i < rungs.length; i++) {
                rungs[i] = new Rung(random, 1 + random.nextInt(4), 1 + random.nextInt(5));
            }
            check(random, rungs);
        }
    }

    /** "power being PUSH 1 with one column" */
    private static void coils() {
        PlantKeeper x = Bench.loaded("PROGRAM p VAR a AT %QX0 : BOOL; b AT %QX1 : BOOL := TRUE; c AT %QX2 : BOOL; d AT %QX3 : BOOL := TRUE; e AT %QX4 : BOOL; f AT %QX5 : BOOL := TRUE; g AT %QX6 : BOOL; h AT %QX7 : BOOL := TRUE; "
            + "END_VAR LADDER RUNG (a); (/b); (+c); (-d); END_RUNG RUNG * (e); * (/f); * (+g); * (-h); END_RUNG END_LADDER END_PROGRAM");
        x.scan(0);
        int[] want = {1, 0, 1, 0, 0, 1, 0, 1};
        for (int i = 0; i < want.length; i++) {
            Bench.due("coil " + i, x.get(1, i), want[i]);
        }
        // Coils from row 0 on: the last one counts.
        PlantKeeper y = Bench.loaded("PROGRAM p VAR a AT %QX0 : BOOL; b AT %QX1 : BOOL; END_VAR LADDER RUNG - (a); * (a); - (/b); * (/b); END_RUNG END_LADDER END_PROGRAM");
        y.scan(0);
        Bench.due("the last one", y.get(1, 0), 0);
        Bench.due("the last one", y.get(1, 1), 1);
    }

    /** Each contact of value 2 or 3 has a cell of its own. */
    private static void edgesInTwoRungs() {
        PlantKeeper x = Bench.loaded("PROGRAM p VAR i AT %IX0 : BOOL; a AT %QX0 : BOOL; b AT %QX1 : BOOL; c AT %QX2 : BOOL; END_VAR LADDER RUNG >i (a); >i (b); END_RUNG RUNG <i (c); END_RUNG END_LADDER END_PROGRAM");
        int[][] rows = {{0, 0, 0}, {1, 1, 0}, {1, 0, 0}, {0, 0, 1}, {0, 0, 0}, {1, 1, 0}};
        for (int[] row : rows) {
            x.put(0, 0, row[0]);
            x.scan(0);
            Bench.due("up", x.get(1, 0), row[1]);
            Bench.due("up in the other row", x.get(1, 1), row[1]);
            Bench.due("down", x.get(1, 2), row[2]);
        }
        // Behind a restart they begin with 0.
        x.restart();
        x.scan(0);
        Bench.due("up again", x.get(1, 0), 1);
    }

    /** Ladders in a FUNCTION_BLOCK and in a FUNCTION, each with its own powers and edges. */
    private static void inBlocks() {
        PlantKeeper x = Bench.loaded("FUNCTION f : BOOL VAR_INPUT a, b : BOOL; END_VAR LADDER RUNG a | (f); b *; END_RUNG END_LADDER END_FUNCTION "
            + "FUNCTION_BLOCK g VAR_INPUT a : BOOL; END_VAR VAR_OUTPUT q : BOOL; END_VAR LADDER RUNG >a - (q); END_RUNG END_LADDER END_FUNCTION_BLOCK "
            + "PROGRAM p VAR i AT %IX0 : BOOL; j AT %IX1 : BOOL; k, l : g; q AT %QX0 : BOOL; r AT %QX1 : BOOL; s AT %QX2 : BOOL; END_VAR k(a := i); l(a := j); q := k.q; r := l.q; s := f(i, j); END_PROGRAM");
        int[][] rows = {{0, 0, 0, 0, 0}, {1, 0, 1, 0, 1}, {1, 1, 0, 1, 1}, {0, 1, 0, 0, 1}, {1, 1, 1, 0, 1}, {0, 0, 0, 0, 0}};
        for (int[] row : rows) {
            x.put(0, 0, row[0]);
            x.put(0, 1, row[1]);
            x.scan(0);
            for (int i = 0; i < 3; i++) {
                Bench.due("output " + i, x.get(1, i), row[2 + i]);
            }
        }
    }
}
