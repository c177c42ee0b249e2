/** Promises 1 to 3 and THE TAPE, both sides of each boundary. */
public final class TapeEdgesTest {
    private static final int BAD = PlantKeeper.BAD, NONE = PlantKeeper.NONE;

    public static void main(String[] args) {
        newObject();
        safeOutputsAreZero();
        bytesInOrder();
        endOfEachNumber();
        endWithFewBytes();
        endOverSeveralCalls();
        feedUpToTheEnd();
        whatEndCutsOff();
        whatUsesUpTheTape();
        longestText();
        Bench.finish("TapeEdgesTest");
    }

    /** "Nothing is loaded, tape and out are empty, all inputs and safe outputs 0; the station is 1." */
    private static void newObject() {
        PlantKeeper x = new PlantKeeper();
        Bench.due("nothing is loaded", x.restart(), NONE);
        Bench.due("the tape is empty", Bench.onTape(x), 0);
        Bench.due("the out is empty", x.byteAt(0), BAD);
        Bench.due("the station", x.station(1), 1);
        Bench.due("watched", x.watched(), 0);
        PlantKeeper y = new PlantKeeper();
        for (int i = 0; i < 256; i++) {
            Bench.due("IX" + i, y.get(0, i), 0);
        }
        for (int i = 0; i < 64; i++) {
            Bench.due("IW" + i, y.get(3, i), 0);
        }
    }

    private static void safeOutputsAreZero() {
        PlantKeeper x = Bench.loaded("PROGRAM p VAR a AT %QX0 : BOOL := TRUE; b AT %QX255 : BOOL := TRUE; c AT %QW0 : INT := 5; d AT %QW63 : INT := 5; END_VAR END_PROGRAM");
        for (int i = 0; i < 256; i++) {
            Bench.due("QX" + i, x.get(1, i), 0);
        }
        for (int i = 0; i < 64; i++) {
            Bench.due("QW" + i, x.get(4, i), 0);
        }
    }

    /** "Twenty bytes come behind the tape, the highest of each number first." */
    private static void bytesInOrder() {
        for (int k = 0; k < 20; k++) {
            // A byte that is no token, among blanks: its place tells where each byte comes to lie.
            int[] w = {0x20202020, 0x20202020, 0x20202020, 0x20202020, 0x20202020};
            w[k / 4] ^= (0x20 ^ 0xFF) << 24 - 8 * (k % 4);
            PlantKeeper x = new PlantKeeper();
            x.feed(0x20202020, 0x20202020, 0x20202020, 0x20202020, 0x20202020);
            Bench.due("feed", x.feed(w[0], w[1], w[2], w[3], w[4]), 40);
            Bench.due("load", x.load(100), 1);
            Bench.due("place of byte " + k, x.count(1), 20 + k);
        }
        PlantKeeper y = new PlantKeeper();
        Bench.due("numbers below 0 are bytes, too", y.feed(Integer.MIN_VALUE, -1, Integer.MAX_VALUE, 0, 1), 20);
        Bench.due("load", y.load(100), 1);
        Bench.due("place", y.count(1), 0);
    }

    private static void endOfEachNumber() {
        for (int n = -2; n <= 22; n++) {
            PlantKeeper x = new PlantKeeper();
            x.feed(1, 2, 3, 4, 5);
            x.feed(1, 2, 3, 4, 5);
            boolean good = n >= 0 && n <= 20;
            Bench.due("end(" + n + ")", x.end(n), good ? 20 + n : BAD);
            Bench.due("bytes behind it", Bench.onTape(x), good ? 20 + n : 40);
        }
    }

    /** "BAD: .. fewer than twenty bytes are on it." */
    private static void endWithFewBytes() {
        for (int size = 0; size <= 21; size++) {
            for (int n : new int[] {0, 1, 20}) {
                PlantKeeper x = new PlantKeeper();
                Bench.tape(x, "x".repeat(size));
                Bench.due("end(" + n + ") with " + size, x.end(n), size < 20 ? BAD : size - 20 + n);
            }
        }
    }

    /** "Of the last twenty bytes on the tape, by whichever calls they came, the first n stay." */
    private static void endOverSeveralCalls() {
        PlantKeeper x = new PlantKeeper();
        Bench.tape(x, "PROGRAM p END_PR");
        Bench.tape(x, "OGRAM$$$$$$$$$$$$$");
        Bench.due("bytes", Bench.onTape(x), 34);
        Bench.due("end(7)", x.end(7), 21);
        Bench.due("what stays is the text", x.load(100), 0);
        PlantKeeper y = new PlantKeeper();
        Bench.tape(y, "PROGRAM p END_PROGRAM$$$$$$$$$$$$$$$$$$$$$$$$$$$$$$$$$$");
        Bench.due("end(0)", y.end(0), 35);
        Bench.due("end(6)", y.end(6), 21);
        Bench.due("load", y.load(100), 0);
    }

    /** "BAD, changing nothing: there would be more than 16,384." */
    private static void feedUpToTheEnd() {
        for (int first = 0; first < 20; first++) {
            PlantKeeper x = new PlantKeeper();
            Bench.tape(x, "x".repeat(first));
            int size = first;
            while (size + 20 <= 16384) {
                size += 20;
                int got = x.feed(0, 0, 0, 0, 0);
                if (got != size) {
                    Bench.due("feed behind " + (size - 20), got, size);
                }
            }
            Bench.due("feed behind " + size, x.feed(0, 0, 0, 0, 0), BAD);
            Bench.due("feed behind " + size, x.feed(-1, -1, -1, -1, -1), BAD);
            Bench.due("bytes", x.end(20), size);
            Bench.due("end(0)", x.end(0), size - 20);
            Bench.due("feed", x.feed(0, 0, 0, 0, 0), size);
            Bench.due("feed", x.feed(0, 0, 0, 0, 0), BAD);
        }
    }

    private static void whatEndCutsOff() {
        PlantKeeper x = new PlantKeeper();
        Bench.tape(x, "PROGRAM p $$$$$$$$$$$$$$$$$$$$");
        Bench.due("end(0)", x.end(0), 10);
        Bench.tape(x, "END_PROGRAM");
        Bench.due("nothing is left of what was cut off", x.load(100), 0);
    }

    /** "load(), frame() and watch() use it up, whatever they answer (but for load() with a budget that is BAD)." */
    private static void whatUsesUpTheTape() {
        PlantKeeper x = new PlantKeeper();
        used(x, "v", x.watch(), NONE, 0);
        Bench.tape(x, "v");
        used(x, "watch() with nothing loaded", x.watch(), NONE, 0);
        Bench.tape(x, Bench.sealed(1, 1, 0, 0, 0, 1));
        used(x, "frame() with nothing loaded", x.frame(), 0, 0);
        Bench.tape(x, "$");
        used(x, "load() of a token that is badly written", x.load(100), 1, 0);
        Bench.tape(x, "PROGRAM");
        used(x, "load() of a text that ends too early", x.load(100), 6, 0);
        Bench.tape(x, "PROGRAM abs END_PROGRAM");
        used(x, "load() of a text that breaks a rule", x.load(100), 11, 0);
        Bench.tape(x, "PROGRAM p VAR v : INT; END_VAR FOR v := 1 TO 20 DO END_FOR; END_PROGRAM");
        used(x, "load() of a text that takes too long", x.load(100), 53, 0);
        Bench.tape(x, "PROGRAM p VAR v : INT; END_VAR END_PROGRAM");
        used(x, "load(99)", x.load(99), BAD, 42);
        used(x, "load(100001)", x.load(100001), BAD, 42);
        used(x, "load()", x.load(100000), 0, 0);
        Bench.tape(x, "v");
        used(x, "watch()", x.watch(), 1, 0);
        Bench.tape(x, "w");
        used(x, "watch() of nothing", x.watch(), BAD, 0);
        Bench.tape(x, Bench.sealed(1, 1, 0, 0, 0, 1));
        used(x, "frame()", x.frame(), 6, 0);
        Bench.tape(x, Bench.sealed(2, 1, 0, 0, 0, 1));
        used(x, "frame() that is passed by", x.frame(), 0, 0);
        Bench.tape(x, "thrown away");
        used(x, "frame() that is thrown away", x.frame(), 0, 0);
        // No other call uses it up.
        Bench.tape(x, "PROGRAM p END_PROGRAM");
        x.restart();
        x.put(0, 0, 1);
        x.get(0, 0);
        x.safe(1, 0, 1);
        x.scan(1);
        x.watched();
        x.station(3);
        x.byteAt(0);
        x.count(0);
        used(x, "other calls", 0, 0, 21);
        Bench.due("load", x.load(100), 0);
    }

    private static void used(PlantKeeper x, String what, int got, int want, int left) {
        Bench.due(what, got, want);
        Bench.due("bytes on the tape behind " + what, Bench.onTape(x), left);
    }

    /** "THE TEXT has up to 16,384 bytes." */
    private static void longestText() {
        PlantKeeper x = new PlantKeeper();
        Bench.tape(x, "PROGRAM p VAR v : INT := 7; END_VAR" + " ".repeat(16384 - 46) + "END_PROGRAM");
        Bench.due("the tape is full", Bench.onTape(x), BAD);
        Bench.due("load of 16,384 bytes", x.load(100), 0);
        Bench.due("it is used up", Bench.onTape(x), 0);
        Bench.watched(x, "v", 1, 7);
        Bench.tape(x, " ".repeat(16383) + "$");
        Bench.due("a fault of the last byte", x.load(100), 1);
        Bench.due("its place", x.count(1), 16383);
        Bench.tape(x, "PROGRAM p" + " ".repeat(16375));
        Bench.due("a text that ends too early", x.load(100), 6);
        Bench.due("its place is the text's end", x.count(1), 16384);
        Bench.load(x, "PROGRAM p VAR v : INT := 7; END_VAR END_PROGRAM");
        Bench.tape(x, "v" + " ".repeat(16383));
        Bench.due("a path as long as the tape", x.watch(), BAD);
        Bench.tape(x, "v".repeat(16384));
        Bench.due("a path as long as the tape", x.watch(), BAD);
        Bench.tape(x, "\1".repeat(16384));
        Bench.due("a frame as long as the tape", x.frame(), 0);
        Bench.due("it is used up", Bench.onTape(x), 0);
    }
}
