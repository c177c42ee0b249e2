/** Promises 12 to 14: frame, station, byteAt. */
public final class LineTest {
    public static void main(String[] args) {
        silence();
        stations();
        coils();
        switches();
        registers();
        meters();
        writes();
        refusals();
        toAll();
        whenStopped();
        Bench.finish("LineTest");
    }

    private static PlantKeeper keeper() {
        return Bench.loaded("PROGRAM p VAR q AT %QX1 : BOOL; v AT %QW2 : INT; i AT %IX0 : BOOL; w AT %IW0 : INT; n : INT; END_VAR "
            + "q := NOT i; v := -2; n := 7 / (w + 1); END_PROGRAM");
    }

    private static int[] request(int... bytes) {
        return bytes;
    }

    private static void silence() {
        PlantKeeper x = new PlantKeeper();
        Bench.replied(x, request(1, 1, 0, 0, 0, 1));
        x = keeper();
        Bench.replied(x, request(1, 1, 0, 0, 0, 1), 1, 1, 1, 0);
        Bench.tape(x, 1, 1, 0, 0, 0, 1, 0xFD, 0xCB);
        Bench.due("a wrong check sum", x.frame(), 0);
        Bench.due("the out is empty", x.byteAt(0), PlantKeeper.BAD);
        Bench.tape(x, 1, 1, 0, 0, 0, 1, 0xFD, 0xCA);
        Bench.due("the right check sum", x.frame(), 6);
        Bench.due("byteAt(-1)", x.byteAt(-1), PlantKeeper.BAD);
        Bench.due("byteAt(5)", x.byteAt(5), 0x88);
        Bench.due("byteAt(6)", x.byteAt(6), PlantKeeper.BAD);
        Bench.tape(x, 1, 1, 0, 0, 0, 1, 0xCA, 0xFD);
        Bench.due("the higher byte first", x.frame(), 0);
        Bench.due("nothing on the tape", x.frame(), 0);
        int[] three = Bench.sealed(1);
        Bench.tape(x, three);
        Bench.due("three bytes", x.frame(), 0);
        Bench.replied(x, request(1, 1), 1, 129, 3);
        int[] longest = new int[254];
        longest[0] = 1;
        longest[1] = 9;
        Bench.replied(x, longest, 1, 137, 1);
        int[] longer = java.util.Arrays.copyOf(longest, 255);
        Bench.replied(x, longer);
        Bench.replied(x, request(2, 1, 0, 0, 0, 1));
        Bench.replied(x, request(255, 1, 0, 0, 0, 1));
    }

    private static void stations() {
        PlantKeeper x = keeper();
        Bench.due("station(0)", x.station(0), PlantKeeper.BAD);
        Bench.due("station(248)", x.station(248), PlantKeeper.BAD);
        Bench.due("station(-1)", x.station(-1), PlantKeeper.BAD);
        Bench.due("station(247)", x.station(247), 1);
        Bench.replied(x, request(1, 1, 0, 0, 0, 1));
        Bench.replied(x, request(247, 1, 0, 0, 0, 1), 247, 1, 1, 0);
        Bench.due("station(1)", x.station(1), 247);
        Bench.due("station(1)", x.station(1), 1);
        Bench.replied(x, request(1, 1, 0, 0, 0, 1), 1, 1, 1, 0);
    }

    private static void coils() {
        PlantKeeper x = keeper();
        int[] set = {0, 3, 7, 8, 9, 17, 255};
        for (int i : set) {
            x.put(2, i, 1);
        }
        Bench.replied(x, request(1, 1, 0, 0, 0, 8), 1, 1, 1, 0x89);
        Bench.replied(x, request(1, 1, 0, 0, 0, 9), 1, 1, 2, 0x89, 1);
        Bench.replied(x, request(1, 1, 0, 3, 0, 7), 1, 1, 1, 0x71);
        Bench.replied(x, request(1, 1, 0, 1, 0, 17), 1, 1, 3, 0xC4, 1, 1);
        Bench.replied(x, request(1, 1, 0, 255, 0, 1), 1, 1, 1, 1);
        int[] all = new int[3 + 32];
        all[0] = 1;
        all[1] = 1;
        all[2] = 32;
        all[3] = 0x89;
        all[4] = 3;
        all[5] = 2;
        all[34] = 0x80;
        Bench.replied(x, request(1, 1, 0, 0, 1, 0), all);
        Bench.replied(x, request(1, 1, 0, 0, 1, 1), 1, 129, 2);
        Bench.replied(x, request(1, 1, 1, 0, 0, 1), 1, 129, 2);
    }

    private static void switches() {
        PlantKeeper x = keeper();
        x.put(0, 255, 1);
        x.put(0, 2, 1);
        Bench.replied(x, request(1, 2, 0, 0, 0, 3), 1, 2, 1, 4);
        Bench.replied(x, request(1, 2, 0, 254, 0, 6), 1, 2, 1, 2);
        x.scan(1);
        Bench.replied(x, request(1, 2, 0, 254, 0, 6), 1, 2, 1, 10);
        x.put(0, 0, 1);
        Bench.replied(x, request(1, 2, 0, 0, 0, 1), 1, 2, 1, 1);
        Bench.replied(x, request(1, 2, 1, 1, 0, 1), 1, 2, 1, 1);
        x.scan(1);
        Bench.replied(x, request(1, 2, 1, 1, 0, 1), 1, 2, 1, 0);
        Bench.replied(x, request(1, 2, 1, 255, 0, 1), 1, 2, 1, 0);
        Bench.replied(x, request(1, 2, 2, 0, 0, 1), 1, 130, 2);
        Bench.replied(x, request(1, 2, 1, 255, 0, 2), 1, 130, 2);
    }

    private static void registers() {
        PlantKeeper x = keeper();
        x.put(5, 0, -2);
        x.put(5, 1, 258);
        x.put(5, 63, -32768);
        Bench.replied(x, request(1, 3, 0, 0, 0, 2), 1, 3, 4, 255, 254, 1, 2);
        Bench.replied(x, request(1, 3, 0, 63, 0, 1), 1, 3, 2, 128, 0);
        Bench.replied(x, request(1, 3, 0, 63, 0, 2), 1, 131, 2);
        Bench.replied(x, request(1, 3, 0, 64, 0, 1), 1, 131, 2);
        int[] all = new int[3 + 128];
        all[0] = 1;
        all[1] = 3;
        all[2] = 128;
        all[3] = 255;
        all[4] = 254;
        all[5] = 1;
        all[6] = 2;
        all[129] = 128;
        Bench.replied(x, request(1, 3, 0, 0, 0, 64), all);
    }

    private static void meters() {
        PlantKeeper x = keeper();
        x.put(3, 0, 3);
        x.put(3, 63, -1);
        x.safe(4, 2, 77);
        x.restart();
        Bench.replied(x, request(1, 4, 0, 0, 0, 1), 1, 4, 2, 0, 3);
        Bench.replied(x, request(1, 4, 0, 63, 0, 4), 1, 4, 8, 255, 255, 0, 0, 0, 0, 0, 77);
        x.scan(1);
        Bench.replied(x, request(1, 4, 0, 66, 0, 1), 1, 4, 2, 255, 254);
        Bench.replied(x, request(1, 4, 0, 127, 0, 1), 1, 4, 2, 0, 0);
        Bench.replied(x, request(1, 4, 0, 128, 0, 1), 1, 132, 2);
        Bench.replied(x, request(1, 4, 0, 4, 0, 125), 1, 132, 2);
        int[] most = new int[3 + 250];
        most[0] = 1;
        most[1] = 4;
        most[2] = 250;
        most[3 + 2 * 60] = 255;
        most[4 + 2 * 60] = 255;
        most[3 + 2 * 63] = 255;
        most[4 + 2 * 63] = 254;
        Bench.replied(x, request(1, 4, 0, 3, 0, 125), most);
    }

    private static void writes() {
        PlantKeeper x = keeper();
        Bench.replied(x, request(1, 5, 0, 9, 255, 0), 1, 5, 0, 9, 255, 0);
        Bench.due("coil 9", x.get(2, 9), 1);
        Bench.replied(x, request(1, 5, 0, 9, 0, 0), 1, 5, 0, 9, 0, 0);
        Bench.due("coil 9", x.get(2, 9), 0);
        Bench.replied(x, request(1, 5, 0, 255, 255, 0), 1, 5, 0, 255, 255, 0);
        Bench.due("coil 255", x.get(2, 255), 1);
        Bench.replied(x, request(1, 6, 0, 63, 255, 255), 1, 6, 0, 63, 255, 255);
        Bench.due("register 63", x.get(5, 63), -1);
        Bench.replied(x, request(1, 6, 0, 0, 127, 255), 1, 6, 0, 0, 127, 255);
        Bench.due("register 0", x.get(5, 0), 32767);
        x.put(2, 20, 1);
        Bench.replied(x, request(1, 15, 0, 10, 0, 10, 2, 0x05, 0xFF), 1, 15, 0, 10, 0, 10);
        int[] want = {1, 0, 1, 0, 0, 0, 0, 0, 1, 1, 1, 0};
        for (int i = 0; i < want.length; i++) {
            Bench.due("coil " + (10 + i), x.get(2, 10 + i), want[i]);
        }
        Bench.replied(x, request(1, 16, 0, 4, 0, 2, 4, 1, 2, 128, 0), 1, 16, 0, 4, 0, 2);
        Bench.due("register 3", x.get(5, 3), 0);
        Bench.due("register 4", x.get(5, 4), 258);
        Bench.due("register 5", x.get(5, 5), -32768);
        Bench.due("register 6", x.get(5, 6), 0);
    }

    private static void refusals() {
        PlantKeeper x = keeper();
        for (int function : new int[] {0, 7, 8, 14, 17, 127}) {
            Bench.replied(x, request(1, function, 0, 0, 0, 1), 1, function + 128, 1);
        }
        for (int function : new int[] {128, 129, 255}) {
            Bench.replied(x, request(1, function, 0, 0, 0, 1), 1, function, 1);
        }
        for (int function = 1; function <= 6; function++) {
            Bench.replied(x, request(1, function), 1, function + 128, 3);
            Bench.replied(x, request(1, function, 0, 0, 0), 1, function + 128, 3);
            Bench.replied(x, request(1, function, 0, 0, 0, 1, 0), 1, function + 128, 3);
        }
        for (int function = 1; function <= 4; function++) {
            int most = function <= 2 ? 2000 : 125;
            Bench.replied(x, request(1, function, 9, 9, 0, 0), 1, function + 128, 3);
            Bench.replied(x, request(1, function, 0, 0, most + 1 >> 8, most + 1 & 255), 1, function + 128, 3);
            Bench.replied(x, request(1, function, 9, 9, most >> 8, most & 255), 1, function + 128, 2);
            Bench.replied(x, request(1, function, 255, 255, 0, 1), 1, function + 128, 2);
        }
        Bench.replied(x, request(1, 5, 9, 9, 0, 1), 1, 133, 3);
        Bench.replied(x, request(1, 5, 0, 0, 255, 1), 1, 133, 3);
        Bench.replied(x, request(1, 5, 1, 0, 255, 0), 1, 133, 2);
        Bench.replied(x, request(1, 6, 0, 64, 0, 0), 1, 134, 2);
        Bench.replied(x, request(1, 15, 0, 0, 0, 1, 1), 1, 143, 3);
        Bench.replied(x, request(1, 15, 0, 0, 0, 0, 0, 0), 1, 143, 3);
        Bench.replied(x, request(1, 15, 0, 0, 0, 0, 1, 0), 1, 143, 3);
        Bench.replied(x, request(1, 15, 0, 0, 0, 9, 1, 255), 1, 143, 3);
        Bench.replied(x, request(1, 15, 0, 0, 0, 8, 2, 255, 0), 1, 143, 3);
        Bench.replied(x, request(1, 15, 0, 0, 0, 8, 1, 255, 0), 1, 143, 3);
        Bench.replied(x, request(1, 15, 0, 249, 0, 8, 1, 255), 1, 143, 2);
        Bench.replied(x, request(1, 15, 0, 248, 0, 8, 1, 255), 1, 15, 0, 248, 0, 8);
        Bench.replied(x, request(1, 16, 0, 0, 0, 1, 1, 5), 1, 144, 3);
        Bench.replied(x, request(1, 16, 0, 0, 0, 0, 1, 5), 1, 144, 3);
        Bench.replied(x, request(1, 16, 0, 0, 0, 2, 2, 5, 5), 1, 144, 3);
        Bench.replied(x, request(1, 16, 0, 0, 0, 1, 2, 5), 1, 144, 3);
        Bench.replied(x, request(1, 16, 0, 64, 0, 1, 2, 5, 5), 1, 144, 2);
        Bench.replied(x, request(1, 16, 0, 63, 0, 2, 4, 5, 5, 5, 5), 1, 144, 2);
        Bench.due("nothing is written", x.get(5, 63), 0);
        Bench.due("nothing is written", x.get(2, 0), 0);
        int[] coils = new int[7 + 246];
        coils[0] = 1;
        coils[1] = 15;
        coils[4] = 1968 >> 8;
        coils[5] = 1968 & 255;
        coils[6] = 246;
        Bench.replied(x, coils, 1, 143, 2);
        coils[5]++;
        Bench.replied(x, coils, 1, 143, 3);
        int[] registers = new int[7 + 246];
        registers[0] = 1;
        registers[1] = 16;
        registers[5] = 123;
        registers[6] = 246;
        Bench.replied(x, registers, 1, 144, 2);
    }

    private static void toAll() {
        PlantKeeper x = keeper();
        Bench.replied(x, request(1, 1, 0, 0, 0, 1), 1, 1, 1, 0);
        Bench.replied(x, request(0, 1, 0, 0, 0, 1));
        Bench.replied(x, request(0, 5, 0, 1, 255, 0));
        Bench.due("coil", x.get(2, 1), 1);
        Bench.replied(x, request(0, 6, 0, 1, 0, 9));
        Bench.due("register", x.get(5, 1), 9);
        Bench.replied(x, request(0, 15, 0, 2, 0, 2, 1, 3));
        Bench.due("coil", x.get(2, 3), 1);
        Bench.replied(x, request(0, 16, 0, 2, 0, 1, 2, 1, 1));
        Bench.due("register", x.get(5, 2), 257);
        Bench.replied(x, request(0, 5, 0, 1, 0, 1));
        Bench.due("coil", x.get(2, 1), 1);
        Bench.replied(x, request(0, 99, 0, 1, 0, 1));
    }

    private static void whenStopped() {
        PlantKeeper x = keeper();
        x.safe(1, 1, 1);
        x.put(3, 0, -1);
        Bench.due("fault", x.scan(1), PlantKeeper.ZERO);
        Bench.replied(x, request(1, 2, 1, 1, 0, 1), 1, 2, 1, 1);
        Bench.replied(x, request(1, 6, 0, 1, 0, 9), 1, 6, 0, 1, 0, 9);
        Bench.due("register", x.get(5, 1), 9);
        Bench.due("still stopped", x.scan(1), PlantKeeper.STOPPED);
        Bench.due("the out stays", x.byteAt(1), 6);
    }
}
