import java.util.ArrayList;
import java.util.Arrays;
import java.util.List;
import java.util.Random;

/** Promises 12 to 14, THE LINE: all requests against a model out of the document's words, most of them at an edge. */
public final class LineEdgesTest {
    private static final int BAD = PlantKeeper.BAD;

    public static void main(String[] args) {
        lengths();
        checkSums();
        addresses();
        stations();
        functions();
        lengthsOfData();
        reads();
        singleWrites();
        manyCoils();
        manyRegisters();
        orderOfRefusals();
        toAll();
        byChance();
        bytesOfTheOut();
        silences();
        tables();
        Bench.finish("LineEdgesTest");
    }

    /** The tables, and what a request with its check sum comes to. */
    private static final class Model {
        final int[][] areas = {new int[256], new int[256], new int[256], new int[64], new int[64], new int[64]};
        int station = 1;

        /** The bytes of the reply without its check sum; none is silence. */
        int[] answer(int[] request) {
            if (request.length < 2 || request.length > 254) {
                return new int[0];
            }
            int address = request[0];
            if (address != 0 && address != station) {
                return new int[0];
            }
            int function = request[1];
            int[] data = Arrays.copyOfRange(request, 2, request.length);
            int refused = refusal(function, data);
            boolean writes = function == 5 || function == 6 || function == 15 || function == 16;
            List<Integer> reply = new ArrayList<>(List.of(address));
            if (refused != 0) {
                reply.add(function < 128 ? function + 128 : function);
                reply.add(refused);
            } else {
                reply.add(function);
                if (writes) {
                    write(function, data);
                    for (int i = 0; i < 4; i++) {
                        reply.add(data[i]);
                    }
                } else {
                    read(function, data, reply);
                }
            }
            return address == 0 ? new int[0] : reply.stream().mapToInt(i -> i).toArray();
        }

        private static int number(int[] data, int i) {
            return 256 * data[i] + data[i + 1];
        }

        private static int refusal(int function, int[] data) {
            if (!List.of(1, 2, 3, 4, 5, 6, 15, 16).contains(function)) {
                return 1;
            }
            if (function <= 6 && data.length != 4) {
                return 3;
            }
            if (function >= 15 && (data.length < 6 || data.length != 5 + data[4])) {
                return 3;
            }
            int n = number(data, 2);
            boolean good;
            switch (function) {
                case 1: case 2: good = 1 <= n && n <= 2000; break;
                case 3: case 4: good = 1 <= n && n <= 125; break;
                case 5: good = n == 0 || n == 65280; break;
                case 6: good = true; break;
                case 15: good = 1 <= n && n <= 1968 && data[4] == (n + 7) / 8; break;
                default: good = 1 <= n && n <= 123 && data[4] == 2 * n;
            }
            if (!good) {
                return 3;
            }
            int size = new int[] {0, 256, 512, 64, 128, 256, 64, 0, 0, 0, 0, 0, 0, 0, 0, 256, 64}[function];
            int last = number(data, 0) + (function == 5 || function == 6 ? 1 : n) - 1;
            return last >= size ? 2 : 0;
        }

        private void write(int function, int[] data) {
            int a = number(data, 0);
            int n = number(data, 2);
            if (function == 5) {
                areas[2][a] = n != 0 ? 1 : 0;
            } else if (function == 6) {
                areas[5][a] = n < 32768 ? n : n - 65536;
            } else {
                for (int i = 0; i < n; i++) {
                    if (function == 15) {
                        areas[2][a + i] = data[5 + i / 8] / (1 << i % 8) % 2;
                    } else {
                        int word = number(data, 5 + 2 * i);
                        areas[5][a + i] = word < 32768 ? word : word - 65536;
                    }
                }
            }
        }

        private void read(int function, int[] data, List<Integer> reply) {
            int a = number(data, 0);
            int n = number(data, 2);
            if (function <= 2) {
                int[] bytes = new int[(n + 7) / 8];
                for (int i = 0; i < n; i++) {
                    int place = a + i;
                    int bit = function == 1 ? areas[2][place] : place < 256 ? areas[0][place] : areas[1][place - 256];
                    bytes[i / 8] += bit << i % 8;
                }
                reply.add(bytes.length);
                for (int b : bytes) {
                    reply.add(b);
                }
            } else {
                reply.add(2 * n);
                for (int i = 0; i < n; i++) {
                    int place = a + i;
                    int word = function == 3 ? areas[5][place] : place < 64 ? areas[3][place] : areas[4][place - 64];
                    int bits = (word + 65536) % 65536;
                    reply.add(bits / 256);
                    reply.add(bits % 256);
                }
            }
        }
    }

    /** A program that fills outputs, and an object and a model in the same state. */
    private static final String TEXT = "PROGRAM p VAR a AT %QX0 : BOOL := TRUE; b AT %QX7 : BOOL := TRUE; c AT %QX8 : BOOL := TRUE; d AT %QX255 : BOOL := TRUE; e AT %QW0 : INT := -1; f AT %QW1 : INT := 258; "
        + "g AT %QW63 : INT := -32768; END_VAR END_PROGRAM";

    private static Model model;
    private static PlantKeeper keeper;

    private static void fresh() {
        keeper = Bench.loaded(TEXT);
        model = new Model();
        int[][] rows = {{0, 0, 1}, {0, 9, 1}, {0, 255, 1}, {3, 0, 4660}, {3, 63, -2}, {2, 0, 1}, {2, 8, 1}, {2, 254, 1}, {5, 0, 32767}, {5, 62, -3}};
        for (int[] row : rows) {
            keeper.put(row[0], row[1], row[2]);
            model.areas[row[0]][row[1]] = row[2];
        }
        keeper.scan(1);
        int[][] outputs = {{1, 0, 1}, {1, 7, 1}, {1, 8, 1}, {1, 255, 1}, {4, 0, -1}, {4, 1, 258}, {4, 63, -32768}};
        for (int[] row : outputs) {
            model.areas[row[0]][row[1]] = row[2];
        }
    }

    /** A request on a new object: the reply, and the memory behind it. */
    private static void request(int... bytes) {
        fresh();
        step(bytes);
        for (int i : new int[] {0, 1, 7, 8, 9, 127, 128, 247, 248, 253, 254, 255}) {
            Bench.due("coil " + i + " behind " + Arrays.toString(bytes), keeper.get(2, i), model.areas[2][i]);
        }
        for (int i : new int[] {0, 1, 2, 31, 32, 60, 61, 62, 63}) {
            Bench.due("register " + i + " behind " + Arrays.toString(bytes), keeper.get(5, i), model.areas[5][i]);
        }
    }

    private static void step(int... bytes) {
        Bench.replied(keeper, bytes, model.answer(bytes));
    }

    private static int[] made(int address, int function, int a, int n, int... more) {
        int[] head = {address, function, a >> 8 & 255, a & 255, n >> 8 & 255, n & 255};
        int[] all = Arrays.copyOf(head, 6 + more.length);
        System.arraycopy(more, 0, all, 6, more.length);
        return all;
    }

    /** A 15 or 16: the number of bytes and so many of them. */
    private static int[] filled(int function, int a, int n, int told, int given) {
        int[] more = new int[1 + given];
        more[0] = told;
        for (int i = 1; i < more.length; i++) {
            more[i] = i * 37 + 129 & 255;
        }
        return made(1, function, a, n, more);
    }

    /** "fewer than 4 bytes, or more than 256" */
    private static void lengths() {
        for (int n = 0; n <= 3; n++) {
            fresh();
            int[] some = Arrays.copyOf(Bench.sealed(1), n);
            Bench.tape(keeper, some);
            Bench.due(n + " bytes", keeper.frame(), 0);
        }
        // Two bytes that are the check sum of none.
        fresh();
        Bench.tape(keeper, 255, 255);
        Bench.due("a check sum alone", keeper.frame(), 0);
        Bench.tape(keeper, Bench.sealed(1));
        Bench.due("three bytes with a check sum", keeper.frame(), 0);
        Bench.tape(keeper, Bench.sealed(1, 1));
        Bench.due("four bytes with a check sum", keeper.frame(), 5);
        for (int n = 250; n <= 258; n++) {
            int[] long1 = new int[n];
            long1[0] = 1;
            long1[1] = 99;
            request(long1);
        }
        for (int n : new int[] {300, 1000, 4000}) {
            int[] long1 = new int[n];
            long1[0] = 1;
            long1[1] = 1;
            request(long1);
        }
    }

    /** "its last two bytes are not the check sum of all others, the lower 8 bits first": each bit of a frame turned. */
    private static void checkSums() {
        int[] good = Bench.sealed(1, 3, 0, 0, 0, 1);
        Bench.due("the lower bits", good[6], 0x84);
        Bench.due("the higher bits", good[7], 0x0A);
        for (int i = 0; i < good.length; i++) {
            for (int bit = 0; bit < 8; bit++) {
                int[] bad = good.clone();
                bad[i] ^= 1 << bit;
                PlantKeeper x = Bench.loaded(TEXT);
                Bench.tape(x, bad);
                Bench.due("a turned bit", x.frame(), 0);
            }
        }
        PlantKeeper x = Bench.loaded(TEXT);
        Bench.tape(x, good);
        Bench.due("none turned", x.frame(), 7);
        int[] turned = good.clone();
        turned[6] = good[7];
        turned[7] = good[6];
        Bench.tape(x, turned);
        Bench.due("the higher bits first", x.frame(), 0);
        // A frame that is thrown away does nothing.
        int[] write = Bench.sealed(1, 6, 0, 5, 0, 9);
        write[7] ^= 1;
        Bench.tape(x, write);
        Bench.due("a write with a wrong check sum", x.frame(), 0);
        Bench.due("register", x.get(5, 5), 0);
    }

    private static void addresses() {
        for (int address = 0; address < 256; address++) {
            request(made(address, 3, 0, 1));
            if (address < 3 || address > 246) {
                request(made(address, 6, 2, 77));
                request(made(address, 99, 2, 77));
            }
        }
    }

    /** "BAD: it is not 1 .. 247." */
    private static void stations() {
        for (int n = -1; n <= 256; n++) {
            PlantKeeper x = Bench.loaded(TEXT);
            boolean good = n >= 1 && n <= 247;
            Bench.due("station(" + n + ")", x.station(n), good ? 1 : BAD);
            int now = good ? n : 1;
            Bench.replied(x, new int[] {now, 6, 0, 3, 1, 2}, now, 6, 0, 3, 1, 2);
            Bench.due("register", x.get(5, 3), 258);
            int other = now == 1 ? 2 : now - 1;
            Bench.replied(x, new int[] {other, 6, 0, 3, 0, 0});
            Bench.due("register", x.get(5, 3), 258);
            Bench.due("station(5)", x.station(5), now);
        }
        PlantKeeper y = new PlantKeeper();
        Bench.due("station with nothing loaded", y.station(200), 1);
        Bench.due("station again", y.station(200), 200);
    }

    /** "1 the function is none of 1 to 6, 15, 16" */
    private static void functions() {
        for (int function = 0; function < 256; function++) {
            request(made(1, function, 0, 1));
            request(1, function);
            request(made(0, function, 0, 1));
        }
    }

    private static void lengthsOfData() {
        for (int function : new int[] {1, 2, 3, 4, 5, 6, 15, 16}) {
            for (int n = 0; n <= 9; n++) {
                int[] all = new int[2 + n];
                all[0] = 1;
                all[1] = function;
                if (n > 3) {
                    all[5] = 1;
                }
                request(all);
                if (n > 4) {
                    for (int told = 0; told <= 5; told++) {
                        all[6] = told;
                        request(all.clone());
                    }
                }
            }
        }
    }

    private static void reads() {
        int[] sizes = {0, 256, 512, 64, 128};
        for (int function = 1; function <= 4; function++) {
            int size = sizes[function];
            int most = function <= 2 ? 2000 : 125;
            for (int n : new int[] {0, 1, 2, 7, 8, 9, 15, 16, 17, 63, 64, 65, 124, 125, 126, 127, 128, 129, 255, 256, 257, 511, 512, 513, 1999, 2000, 2001, 32768, 65535}) {
                for (int a : new int[] {0, 1, size - n - 1, size - n, size - n + 1, size - 1, size, size + 1, 65535 - n, 65536 - n, 65535, most}) {
                    if (a >= 0 && a <= 65535) {
                        request(made(1, function, a, n));
                    }
                }
            }
        }
    }

    private static void singleWrites() {
        for (int a : new int[] {0, 1, 62, 63, 64, 65, 254, 255, 256, 257, 32768, 65535}) {
            for (int n : new int[] {0, 1, 2, 254, 255, 256, 32767, 32768, 65279, 65280, 65281, 65534, 65535}) {
                request(made(1, 5, a, n));
                request(made(1, 6, a, n));
            }
        }
    }

    private static void manyCoils() {
        for (int n : new int[] {0, 1, 2, 7, 8, 9, 15, 16, 17, 255, 256, 257, 1960, 1961, 1967, 1968, 1969, 1976, 2000, 65535}) {
            int bytes = (n + 7) / 8;
            for (int a : new int[] {0, 1, 255 - n, 256 - n, 257 - n, 255, 256, 65535}) {
                if (a < 0) {
                    continue;
                }
                for (int told = Math.max(0, bytes - 1); told <= bytes + 1 && told < 248; told++) {
                    request(filled(15, a, n, told, told));
                    request(filled(15, a, n, told, told + 1));
                    request(filled(15, a, n, told, Math.max(0, told - 1)));
                }
            }
        }
    }

    private static void manyRegisters() {
        for (int n : new int[] {0, 1, 2, 3, 62, 63, 64, 65, 122, 123, 124, 128, 65535}) {
            for (int a : new int[] {0, 1, 63 - n, 64 - n, 65 - n, 63, 64, 65535}) {
                if (a < 0) {
                    continue;
                }
                for (int told = Math.max(0, 2 * n - 1); told <= 2 * n + 1 && told < 248; told++) {
                    request(filled(16, a, n, told, told));
                    request(filled(16, a, n, told, told + 1));
                    request(filled(16, a, n, told, Math.max(0, told - 1)));
                }
            }
        }
        request(filled(16, 0, 124, 246, 246));
        request(filled(16, 0, 123, 246, 246));
        request(filled(15, 0, 1969, 246, 246));
        request(filled(15, 0, 1968, 246, 246));
    }

    /** 1, then 3, then 2. */
    private static void orderOfRefusals() {
        fresh();
        Bench.replied(keeper, new int[] {1, 99, 255, 255, 0, 0, 0}, 1, 227, 1);
        Bench.replied(keeper, new int[] {1, 1, 255, 255, 0, 1, 0}, 1, 129, 3);
        Bench.replied(keeper, new int[] {1, 1, 255, 255, 0, 0}, 1, 129, 3);
        Bench.replied(keeper, new int[] {1, 1, 255, 255, 0, 1}, 1, 129, 2);
        Bench.replied(keeper, new int[] {1, 5, 255, 255, 0, 1}, 1, 133, 3);
        Bench.replied(keeper, new int[] {1, 5, 255, 255, 0, 0}, 1, 133, 2);
        Bench.replied(keeper, new int[] {1, 6, 255, 255, 0, 1, 1}, 1, 134, 3);
        Bench.replied(keeper, new int[] {1, 6, 255, 255, 0, 1}, 1, 134, 2);
        Bench.replied(keeper, new int[] {1, 15, 255, 255, 0, 9, 1, 0}, 1, 143, 3);
        Bench.replied(keeper, new int[] {1, 15, 255, 255, 0, 8, 1, 0}, 1, 143, 2);
        Bench.replied(keeper, new int[] {1, 16, 255, 255, 0, 1, 2, 0}, 1, 144, 3);
        Bench.replied(keeper, new int[] {1, 16, 255, 255, 0, 1, 2, 0, 0}, 1, 144, 2);
    }

    /** "of a request with address 0 only 5, 6, 15, 16 are done, if they are not refused, and nothing is sent" */
    private static void toAll() {
        for (int station : new int[] {1, 247}) {
            int[][] all = {made(0, 1, 0, 1), made(0, 2, 0, 1), made(0, 3, 0, 1), made(0, 4, 0, 1), made(0, 5, 9, 65280), made(0, 5, 0, 0), made(0, 6, 9, 513), made(0, 15, 7, 3, 1, 5), made(0, 16, 31, 2, 4, 1, 2, 255, 254),
                made(0, 5, 9, 1), made(0, 5, 256, 65280), made(0, 6, 64, 1), made(0, 15, 255, 2, 1, 3), made(0, 16, 63, 2, 4, 1, 2, 3, 4), made(0, 99, 0, 0), made(0, 16, 0, 1, 1, 1)};
            for (int[] bytes : all) {
                fresh();
                keeper.station(station);
                model.station = station;
                step(made(station, 1, 0, 1));
                step(bytes);
                for (int i = 0; i < 64; i++) {
                    Bench.due("coil " + i, keeper.get(2, i), model.areas[2][i]);
                    Bench.due("register " + i, keeper.get(5, i), model.areas[5][i]);
                }
                step(made(station, 3, 0, 64));
            }
        }
    }

    /** Many requests one behind the other. */
    private static void byChance() {
        Random random = new Random(17);
        for (int run = 0; run < 400; run++) {
            fresh();
            for (int turn = 0; turn < 6; turn++) {
                int function = new int[] {1, 2, 3, 4, 5, 6, 15, 16}[random.nextInt(8)];
                int size = function == 2 ? 512 : function == 4 ? 128 : function == 1 || function == 5 || function == 15 ? 256 : 64;
                int n = 1 + random.nextInt(function == 1 || function == 2 || function == 15 ? 40 : 8);
                int a = random.nextInt(4) == 0 ? Math.max(0, size - n + random.nextInt(2)) : random.nextInt(size);
                int[] bytes;
                if (function == 15) {
                    bytes = made(1, 15, a, n, random.ints((n + 7) / 8 + 1, 0, 256).toArray());
                    bytes[6] = (n + 7) / 8;
                } else if (function == 16) {
                    bytes = made(1, 16, a, n, random.ints(2 * n + 1, 0, 256).toArray());
                    bytes[6] = 2 * n;
                } else {
                    bytes = made(1, function, a, function == 5 ? random.nextInt(2) * 65280 : function == 6 ? random.nextInt(65536) : n);
                }
                bytes[0] = random.nextInt(8) == 0 ? 0 : 1;
                step(bytes);
            }
        }
    }

    /** "Byte i of the out, 0 .. 255. BAD: there is none." */
    private static void bytesOfTheOut() {
        fresh();
        for (int i : new int[] {-1, 0, 1, 255, 256}) {
            Bench.due("byteAt(" + i + ") of an empty out", new PlantKeeper().byteAt(i), BAD);
        }
        step(made(1, 4, 0, 125));
        Bench.due("byteAt(-1)", keeper.byteAt(-1), BAD);
        Bench.due("byteAt(0)", keeper.byteAt(0), 1);
        Bench.due("the last one is a byte", keeper.byteAt(254) >= 0 && keeper.byteAt(254) <= 255 ? 1 : 0, 1);
        for (int i : new int[] {255, 256, 257, Integer.MIN_VALUE, Integer.MAX_VALUE}) {
            Bench.due("byteAt(" + i + ")", keeper.byteAt(i), BAD);
        }
        // A shorter reply leaves nothing of the longer one.
        step(made(1, 99, 0, 1));
        Bench.due("byteAt(5)", keeper.byteAt(5), BAD);
        Bench.due("byteAt(254)", keeper.byteAt(254), BAD);
    }

    /** "0: silence (an empty out then)": each kind of it empties the out. */
    private static void silences() {
        int[][] silent = {{}, {1}, Bench.sealed(1), {1, 3, 0, 0, 0, 1, 0, 0}, Bench.sealed(2, 3, 0, 0, 0, 1), Bench.sealed(0, 3, 0, 0, 0, 1), Bench.sealed(0, 6, 0, 0, 0, 1), Bench.sealed(0, 99)};
        for (int[] bytes : silent) {
            fresh();
            step(made(1, 3, 0, 1));
            Bench.due("the out", keeper.byteAt(0), 1);
            Bench.tape(keeper, bytes);
            Bench.due("silence", keeper.frame(), 0);
            Bench.due("an empty out", keeper.byteAt(0), BAD);
        }
        fresh();
        step(made(1, 3, 0, 1));
        keeper.scan(1);
        keeper.restart();
        Bench.load(keeper, "PROGRAM");
        Bench.due("the out stays behind loading", keeper.byteAt(0), 1);
        Bench.tape(keeper, Bench.sealed(1, 3, 0, 0, 0, 1));
        Bench.due("nothing is loaded", keeper.frame(), 0);
        Bench.due("an empty out", keeper.byteAt(0), BAD);
        Bench.tape(keeper, Bench.sealed(0, 6, 0, 0, 0, 1));
        Bench.due("nothing is loaded", keeper.frame(), 0);
        Bench.load(keeper, TEXT);
        Bench.due("nothing was written", keeper.get(5, 0), 0);
    }

    /** "IX as they were put, then QX as they are published": not as their cells are. */
    private static void tables() {
        PlantKeeper x = Bench.loaded("PROGRAM p VAR i AT %IX255 : BOOL; q AT %QX0 : BOOL; w AT %IW63 : INT; v AT %QW0 : INT; END_VAR q := i; v := w; END_PROGRAM");
        x.put(0, 255, 1);
        x.put(3, 63, -2);
        Bench.replied(x, made(1, 2, 255, 2), 1, 2, 1, 1);
        Bench.replied(x, made(1, 4, 63, 2), 1, 4, 4, 255, 254, 0, 0);
        x.scan(0);
        Bench.replied(x, made(1, 2, 255, 2), 1, 2, 1, 3);
        Bench.replied(x, made(1, 4, 63, 2), 1, 4, 4, 255, 254, 255, 254);
        x.put(0, 255, 0);
        x.put(3, 63, 1);
        Bench.replied(x, made(1, 2, 255, 2), 1, 2, 1, 2);
        Bench.replied(x, made(1, 4, 63, 2), 1, 4, 4, 0, 1, 255, 254);
        x.safe(1, 0, 1);
        x.safe(4, 0, 256);
        x.restart();
        Bench.replied(x, made(1, 2, 255, 2), 1, 2, 1, 2);
        Bench.replied(x, made(1, 4, 63, 2), 1, 4, 4, 0, 1, 1, 0);
        // What is written comes into the cells at once, and into a program's variables.
        PlantKeeper y = Bench.loaded("PROGRAM p VAR m AT %MX3 : BOOL; w AT %MW3 : INT; n : INT; END_VAR IF m THEN n := n + w; END_IF; END_PROGRAM");
        Bench.replied(y, made(1, 5, 3, 65280), 1, 5, 0, 3, 255, 0);
        Bench.replied(y, made(1, 6, 3, 65535), 1, 6, 0, 3, 255, 255);
        Bench.watched(y, "m", 0, 1);
        Bench.watched(y, "w", 1, -1);
        y.scan(0);
        Bench.watched(y, "n", 1, -1);
    }
}
