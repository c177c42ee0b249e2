/** Promises 1 to 3: a new object, feed, end. */
public final class TapeTest {
    public static void main(String[] args) {
        newObject();
        feeding();
        ending();
        fullTape();
        usedUp();
        Bench.finish("TapeTest");
    }

    private static void newObject() {
        PlantKeeper x = new PlantKeeper();
        Bench.due("scan", x.scan(0), PlantKeeper.NONE);
        Bench.due("restart", x.restart(), PlantKeeper.NONE);
        Bench.due("tape is empty", x.end(0), PlantKeeper.BAD);
        Bench.due("out is empty", x.byteAt(0), PlantKeeper.BAD);
        for (int i = 0; i < 256; i++) {
            Bench.due("input bit " + i, x.get(0, i), 0);
        }
        for (int i = 0; i < 64; i++) {
            Bench.due("input word " + i, x.get(3, i), 0);
        }
        Bench.due("watched", x.watched(), 0);
        Bench.due("station", x.station(5), 1);
        Bench.due("fault", x.count(0), 0);
        Bench.due("place", x.count(1), PlantKeeper.NONE);
        for (int which = 2; which <= 9; which++) {
            Bench.due("count " + which, x.count(which), 0);
        }
        Bench.due("load nothing", x.load(100), 10);
        Bench.due("its place", x.count(1), 0);
        Bench.due("load", Bench.load(x, "PROGRAM p END_PROGRAM"), 0);
        for (int i = 0; i < 64; i++) {
            Bench.due("safe bit " + i, x.get(1, i), 0);
            Bench.due("safe word " + i, x.get(4, i), 0);
        }
    }

    private static void feeding() {
        PlantKeeper x = new PlantKeeper();
        // "PROGRAM p END_PROGR", "AM" and eighteen blanks: the highest byte of each number comes first.
        Bench.due("feed", x.feed(0x50524F47, 0x52414D20, 0x70202045, 0x4E445F50, 0x524F4752), 20);
        Bench.due("feed", x.feed(0x414D2020, 0x20202020, 0x20202020, 0x20202020, 0x20202020), 40);
        Bench.due("load", x.load(100), 0);
        Bench.due("feed behind that", x.feed(-1, -1, -1, -1, -1), 20);
        Bench.due("a byte of 255", x.load(100), 1);
    }

    private static void ending() {
        PlantKeeper x = new PlantKeeper();
        x.feed(0, 0, 0, 0, 0);
        Bench.due("end(-1)", x.end(-1), PlantKeeper.BAD);
        Bench.due("end(21)", x.end(21), PlantKeeper.BAD);
        Bench.due("end(20)", x.end(20), 20);
        Bench.due("end(19)", x.end(19), 19);
        Bench.due("nineteen are fewer than twenty", x.end(0), PlantKeeper.BAD);
        Bench.due("feed", x.feed(0, 0, 0, 0, 0), 39);
        Bench.due("end(1)", x.end(1), 20);
        Bench.due("end(7)", x.end(7), 7);
        Bench.due("fewer than twenty", x.end(7), PlantKeeper.BAD);
        Bench.due("feed", x.feed(0, 0, 0, 0, 0), 27);
        Bench.due("bytes by two calls", x.end(0), 7);
        Bench.due("feed", x.feed(0, 0, 0, 0, 0), 27);
        Bench.due("feed", x.feed(0, 0, 0, 0, 0), 47);
        Bench.due("end(3)", x.end(3), 30);
        Bench.due("end(3) again", x.end(3), 13);
        Bench.due("end", x.end(0), PlantKeeper.BAD);
    }

    private static void fullTape() {
        PlantKeeper x = new PlantKeeper();
        for (int i = 1; i <= 819; i++) {
            Bench.due("feed " + i, x.feed(0x20202020, 0x20202020, 0x20202020, 0x20202020, 0x20202020), 20 * i);
        }
        Bench.due("feed too much", x.feed(0, 0, 0, 0, 0), PlantKeeper.BAD);
        Bench.due("nothing changed", x.end(4), 16364);
        Bench.due("feed up to the end", x.feed(0, 0, 0, 0, 0), 16384);
        Bench.due("feed too much", x.feed(0, 0, 0, 0, 0), PlantKeeper.BAD);
        Bench.due("load", x.load(100), 1);
        Bench.due("place", x.count(1), 16364);
    }

    private static void usedUp() {
        PlantKeeper x = new PlantKeeper();
        Bench.tape(x, "x");
        Bench.due("watch", x.watch(), PlantKeeper.NONE);
        Bench.due("feed behind watch", x.feed(0, 0, 0, 0, 0), 20);
        Bench.due("frame", x.frame(), 0);
        Bench.due("feed behind frame", x.feed(0, 0, 0, 0, 0), 20);
        Bench.due("load with a bad budget", x.load(99), PlantKeeper.BAD);
        Bench.due("load with a bad budget", x.load(100001), PlantKeeper.BAD);
        Bench.due("the tape stays", x.feed(0, 0, 0, 0, 0), 40);
        Bench.due("load", x.load(100000), 1);
        Bench.due("feed behind load", x.feed(0, 0, 0, 0, 0), 20);
    }
}
