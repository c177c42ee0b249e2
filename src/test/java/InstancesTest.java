import java.util.ArrayList;
import java.util.List;
import java.util.Random;

/** Promises 4, 5 and 10: instances of instances, from those without a cell to those that fill all cells. */
public final class InstancesTest {
    private static final String NAMES = "a,b,c,d,e,f,g,h,i,j";

    public static void main(String[] args) {
        Bench.ends("instances without cells", InstancesTest::withoutCells);
        Bench.ends("instances without cells that are invoked", InstancesTest::invokedWithoutCells);
        Bench.ends("instances without cells beside others", InstancesTest::amongOthers);
        Bench.ends("cells of bodies alone", InstancesTest::cellsOfBodies);
        Bench.ends("two in each", InstancesTest::twoInEach);
        Bench.ends("many without cells in many", InstancesTest::manyInMany);
        Bench.ends("random blocks", InstancesTest::randomBlocks);
        Bench.finish("InstancesTest");
    }

    /** Sixteen blocks: B0 to B14, each with instances of the one before, and the PROGRAM. */
    private static String chain(String first, String names, String body) {
        StringBuilder all = new StringBuilder("FUNCTION_BLOCK B0 " + first + " END_FUNCTION_BLOCK\n");
        for (int i = 1; i <= 14; i++) {
            all.append("FUNCTION_BLOCK B").append(i).append(" VAR ").append(names).append(":B").append(i - 1).append(";END_VAR ").append(body).append(" END_FUNCTION_BLOCK\n");
        }
        return all.append("PROGRAM P VAR ").append(names).append(":B14;END_VAR ").append(body).append(" END_PROGRAM\n").toString();
    }

    private static void counts(PlantKeeper x, int bound, int instructions, int cells) {
        Bench.due("bound", x.count(2), bound);
        Bench.due("instructions", x.count(3), instructions);
        Bench.due("cells", x.count(4), cells);
    }

    /** 10 to the 15th of the innermost ones. */
    private static void withoutCells() {
        PlantKeeper x = new PlantKeeper();
        for (int turn = 0; turn < 3; turn++) {
            Bench.due("load", Bench.load(x, chain("", NAMES, ""), 1000), 0);
            counts(x, 0, 0, 960);
            Bench.due("scan", x.scan(1), 0);
            Bench.due("restart", x.restart(), 0);
            Bench.due("scan", x.scan(1), 0);
        }
        Bench.notWatched(x, "a");
        Bench.notWatched(x, "a.b.c.d.e.f.g.h.i.j.a.b.c.d.e");
        Bench.notWatched(x, "a.b.c.d.e.f.g.h.i.j.a.b.c.d.e.f");
    }

    private static void invokedWithoutCells() {
        PlantKeeper x = Bench.loaded(chain("", NAMES, "a(); j();"));
        // Each takes two steps, and those of both that it begins.
        counts(x, 65534, 30, 960);
        Bench.due("scan", x.scan(1), 65534);
        Bench.due("restart", x.restart(), 0);
        Bench.due("scan", x.scan(1), 65534);
        Bench.due("with a third one", Bench.load(x, chain("", NAMES, "a(); b(); j();")), 53);
        Bench.due("with all", Bench.load(x, chain("", NAMES, "a();b();c();d();e();f();g();h();i();j();")), 52);
    }

    private static void amongOthers() {
        String text = chain("", NAMES, "").replace("FUNCTION_BLOCK B14 VAR ", "FUNCTION_BLOCK B14 VAR k:INT:=7;")
            .replace("PROGRAM P VAR ", "PROGRAM P VAR k:ARRAY[1..3]OF DINT:=70000;").replace(":B14;", ":B14;z:BOOL:=TRUE;");
        PlantKeeper x = Bench.loaded(text);
        counts(x, 0, 0, 960 + 3 + 10 + 1);
        for (char name = 'a'; name <= 'j'; name++) {
            Bench.watched(x, name + ".k", 1, 7);
        }
        Bench.watched(x, "k[3]", 2, 70000);
        Bench.watched(x, "z", 0, 1);
        Bench.due("restart", x.restart(), 0);
        Bench.watched(x, "j.k", 1, 7);
        Bench.watched(x, "z", 0, 1);
    }

    /** "Then 1 for each 16 and 19", "then 156, if the body is a LADDER": cells without a variable. */
    private static void cellsOfBodies() {
        String few = "FUNCTION_BLOCK f LADDER END_LADDER END_FUNCTION_BLOCK FUNCTION_BLOCK g CASE 1 OF END_CASE; END_FUNCTION_BLOCK "
            + "FUNCTION_BLOCK h VAR a,b:f;c:g;END_VAR END_FUNCTION_BLOCK PROGRAM p VAR x,y:h;z:INT:=5;END_VAR x(); y(); END_PROGRAM";
        PlantKeeper x = Bench.loaded(few);
        counts(x, 2, 4, 960 + 2 * 313 + 1);
        Bench.watched(x, "z", 1, 5);
        Bench.due("scan", x.scan(1), 2);
        Bench.refused(19, "FUNCTION_BLOCK f LADDER END_LADDER END_FUNCTION_BLOCK PROGRAM p VAR @a0,a1,a2,a3,a4,a5,a6,a7,a8,a9,b0,b1,b2,b3,b4,b5,b6,b7,b8,b9,c0:f;END_VAR END_PROGRAM");
        Bench.refused(0, "FUNCTION_BLOCK f LADDER END_LADDER END_FUNCTION_BLOCK PROGRAM p VAR a0,a1,a2,a3,a4,a5,a6,a7,a8,a9,b0,b1,b2,b3,b4,b5,b6,b7,b8,b9:f;END_VAR END_PROGRAM");
    }

    /** 2,048 of the innermost ones, all that 4,096 cells have room for beside the PROGRAM's own. */
    private static void twoInEach() {
        StringBuilder text = new StringBuilder("FUNCTION_BLOCK B0 VAR v:INT:=3;END_VAR v:=v+1; END_FUNCTION_BLOCK\n");
        for (int i = 1; i <= 11; i++) {
            String last = ":B" + (i - 1) + ";";
            text.append(i == 11 ? "PROGRAM P" : "FUNCTION_BLOCK B" + i).append(" VAR l").append(last).append("r").append(last)
                .append("END_VAR l(); ").append(i == 11 ? "END_PROGRAM" : "END_FUNCTION_BLOCK\n");
        }
        PlantKeeper x = Bench.loaded(text.toString());
        Bench.due("cells", x.count(4), 960 + 2048);
        String left = "l.".repeat(11) + "v";
        Bench.due("scan", x.scan(1), 15);
        Bench.watched(x, left, 1, 4);
        Random random = new Random(8);
        for (int i = 0; i < 200; i++) {
            String path = sides(random);
            Bench.watched(x, path, 1, path.equals(left) ? 4 : 3);
        }
        x.restart();
        Bench.watched(x, left, 1, 3);
        Bench.watched(x, "r.".repeat(11) + "v", 1, 3);
    }

    private static String sides(Random random) {
        StringBuilder path = new StringBuilder();
        for (int i = 0; i < 11; i++) {
            path.append(random.nextBoolean() ? "l." : "r.");
        }
        return path + "v";
    }

    /** As many as a text has room for: 2,000 instances without cells in each of 2,048. */
    private static void manyInMany() {
        StringBuilder text = new StringBuilder("FUNCTION_BLOCK E END_FUNCTION_BLOCK FUNCTION_BLOCK B0 VAR v:INT:=3;");
        for (int i = 0; i < 2000; i++) {
            text.append(i == 0 ? "" : ",").append("y").append(Integer.toString(i, 36));
        }
        text.append(":E;w:INT:=4;END_VAR END_FUNCTION_BLOCK\n");
        for (int i = 1; i <= 10; i++) {
            text.append(i == 10 ? "PROGRAM P" : "FUNCTION_BLOCK B" + i).append(" VAR l,r:B").append(i - 1).append(";END_VAR ")
                .append(i == 10 ? "END_PROGRAM" : "END_FUNCTION_BLOCK\n");
        }
        PlantKeeper x = Bench.loaded(text.toString());
        Bench.due("cells", x.count(4), 960 + 2048);
        for (int turn = 0; turn < 400; turn++) {
            Bench.due("restart", x.restart(), 0);
        }
        Bench.watched(x, "l.r.l.r.l.r.l.r.l.r.v", 1, 3);
        Bench.watched(x, "r.r.l.r.l.r.l.r.l.r.w", 1, 4);
        Bench.notWatched(x, "r.r.l.r.l.r.l.r.l.r.y1");
    }

    /** All variables of a block by their paths, with what they begin with. */
    private static final class Shape {
        final List<String> paths = new ArrayList<>();
        final List<Integer> types = new ArrayList<>();
        final List<Integer> values = new ArrayList<>();
        int cells;

        void add(String path, int type, int value) {
            paths.add(path);
            types.add(type);
            values.add(value);
        }
    }

    private static final String[] TYPES = {"BOOL", "INT", "DINT"};

    private static int constant(Random random, int type) {
        int[] most = {2, 30000, 2000000000};
        return random.nextInt(most[type]) * (type > 0 && random.nextBoolean() ? -1 : 1);
    }

    private static String told(int type, int value) {
        return type == 0 ? value == 1 ? "TRUE" : "FALSE" : String.valueOf(value);
    }

    /** Declares a variable of some form; what it begins with comes into the shape. */
    private static String declared(Random random, String name, List<Shape> before, Shape shape) {
        int form = random.nextInt(before.isEmpty() ? 3 : 6);
        if (form == 0) {
            String standard = random.nextBoolean() ? "TON" : "RS";
            shape.add(name + (standard.equals("TON") ? ".et" : ".q1"), standard.equals("TON") ? 2 : 0, 0);
            shape.cells += standard.equals("TON") ? 6 : 3;
            return name + ":" + standard + ";";
        }
        if (form >= 3) {
            int meant = random.nextInt(before.size());
            Shape inner = before.get(meant);
            for (int i = 0; i < inner.paths.size(); i++) {
                shape.add(name + "." + inner.paths.get(i), inner.types.get(i), inner.values.get(i));
            }
            shape.cells += inner.cells;
            return name + ":B" + meant + ";";
        }
        int type = random.nextInt(3);
        boolean with = random.nextBoolean();
        int value = with ? constant(random, type) : 0;
        String behind = TYPES[type] + (with ? ":=" + told(type, value) : "") + ";";
        int elements = form == 1 ? 1 : 1 + random.nextInt(4);
        for (int i = 0; i < elements; i++) {
            shape.add(form == 1 ? name : name + "[" + (i - 1) + "]", type, value);
        }
        shape.cells += elements;
        return name + ":" + (form == 1 ? "" : "ARRAY[-1.." + (elements - 2) + "]OF ") + behind;
    }

    private static void randomBlocks() {
        for (int run = 0; run < 300; run++) {
            Random random = new Random(run);
            List<Shape> before = new ArrayList<>();
            StringBuilder text = new StringBuilder();
            Shape shape = null;
            for (int block = 0; block < 5; block++) {
                shape = new Shape();
                text.append(block == 4 ? "PROGRAM P VAR " : "FUNCTION_BLOCK B" + block + " VAR ");
                for (int i = random.nextInt(5); i > 0; i--) {
                    text.append(declared(random, "v" + i, before, shape));
                }
                text.append("END_VAR ").append(block == 4 ? "END_PROGRAM" : "END_FUNCTION_BLOCK ");
                before.add(shape);
            }
            beginsAs(text.toString(), shape);
        }
    }

    private static void beginsAs(String text, Shape shape) {
        PlantKeeper x = Bench.loaded(text);
        Bench.due("cells of " + text, x.count(4), 960 + shape.cells);
        for (int turn = 0; turn < 2; turn++) {
            for (int i = 0; i < shape.paths.size(); i++) {
                Bench.watched(x, shape.paths.get(i), shape.types.get(i), shape.values.get(i));
            }
            x.scan(1);
            x.restart();
        }
    }
}
