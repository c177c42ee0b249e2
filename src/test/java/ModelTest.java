import java.util.List;
import java.util.Random;

/** All promises: random texts and random calls, each answered as a second program written from the same document answers. */
public final class ModelTest {
    private final Random random;
    private final PlantKeeper x = new PlantKeeper();
    private final Model model = new Model();
    private final String run;
    private String text = "";
    private List<String> paths = List.of("x1");
    private int calls = 0;

    /** How many texts came to each fault. */
    private static final int[] told = new int[64];

    private ModelTest(long seed) {
        random = new Random(seed);
        run = "run " + seed + ": ";
    }

    public static void main(String[] args) {
        int runs = args.length > 0 ? Integer.parseInt(args[0]) : 1500;
        long first = args.length > 1 ? Long.parseLong(args[1]) : 1;
        for (long seed = first; seed < first + runs; seed++) {
            new ModelTest(seed).calls();
        }
        int kinds = 0;
        for (int fault = 1; fault < told.length; fault++) {
            kinds += told[fault] > 0 ? 1 : 0;
        }
        Bench.due("texts that are loaded", told[0] > runs / 4 ? 1 : 0, 1);
        Bench.due("many kinds of faults", kinds >= 25 ? 1 : 0, 1);
        if (args.length > 0) {
            System.out.println(java.util.Arrays.toString(told));
        }
        Bench.finish("ModelTest");
    }

    private void due(String call, int got, int want) {
        calls++;
        if (got != want) {
            Bench.due(run + "call " + calls + " " + call + " of " + text, got, want);
        } else {
            Bench.due("", got, want);
        }
    }

    private void calls() {
        while (calls < 440) {
            int kind = random.nextInt(40);
            if (kind <= 1 || calls == 0) {
                load();
            } else if (kind <= 14) {
                int ticks = random.nextInt(30) == 0 ? random.nextInt(200003) - 100001 : random.nextInt(4) == 0 ? random.nextInt(100001) : random.nextInt(3000);
                due("scan(" + ticks + ")", x.scan(ticks), model.scan(ticks));
                due("count(5)", x.count(5), model.count(5));
            } else if (kind <= 20) {
                places();
            } else if (kind <= 30) {
                watch();
            } else if (kind <= 33) {
                frame();
            } else {
                others();
            }
        }
        for (int which = -1; which <= 10; which++) {
            due("count(" + which + ")", x.count(which), model.count(which));
        }
        for (int area = 0; area <= 5; area++) {
            for (int i = 0; i < 12; i++) {
                due("get(" + area + ", " + i + ")", x.get(area, i), model.get(area, i));
            }
        }
    }

    private void tape(int... bytes) {
        for (int i = 0; i < bytes.length; i += 20) {
            int[] w = new int[5];
            for (int k = 0; k < 20 && i + k < bytes.length; k++) {
                w[k / 4] |= bytes[i + k] << 24 - 8 * (k % 4);
            }
            due("feed", x.feed(w[0], w[1], w[2], w[3], w[4]), model.feed(w));
        }
        if (bytes.length % 20 != 0) {
            due("end", x.end(bytes.length % 20), model.end(bytes.length % 20));
        }
    }

    private void tape(String all) {
        tape(all.chars().toArray());
    }

    private void load() {
        ModelTexts texts = new ModelTexts(random);
        String made = texts.text();
        if (made.length() / 20 + calls > 400) {
            calls += 20;
            return;
        }
        text = made;
        tape(text);
        int budget = random.nextInt(4) == 0 ? 90 + random.nextInt(200) : 100 + random.nextInt(99901);
        int want = model.load(budget);
        due("load(" + budget + ")", x.load(budget), want);
        told[Math.max(want, 0)]++;
        for (int which = 0; which <= 4; which++) {
            due("count(" + which + ")", x.count(which), model.count(which));
        }
        if (!texts.paths().isEmpty()) {
            paths = texts.paths();
        }
    }

    private int value(int area) {
        int[] words = {0, 1, -1, 32767, -32768, 32768, -32769, 5, 100, -7, 2};
        return random.nextInt(8) == 0 ? random.nextInt(5) - 2 : area < 3 ? random.nextInt(2) : words[random.nextInt(words.length)];
    }

    private void places() {
        int area = random.nextInt(20) == 0 ? random.nextInt(9) - 2 : random.nextInt(6);
        int i = random.nextInt(15) == 0 ? random.nextInt(300) - 20 : random.nextInt(12);
        int v = value(area);
        String numbers = area + ", " + i + ", " + v + ")";
        if (area == 1 || area == 4) {
            due("safe(" + numbers, x.safe(area, i, v), model.safe(area, i, v));
        } else {
            due("put(" + numbers, x.put(area, i, v), model.put(area, i, v));
        }
        due("get(" + area + ", " + i, x.get(area, i), model.get(area, i));
    }

    private void watch() {
        String path = paths.get(random.nextInt(paths.size()));
        if (random.nextInt(12) == 0) {
            int at = random.nextInt(path.length() + 1);
            String[] some = {".", "[", "]", "-", "0", "1", "x", " ", "_", "[0]", ".q"};
            String rest = random.nextBoolean() || at == path.length() ? path.substring(at) : path.substring(at + 1);
            path = path.substring(0, at) + some[random.nextInt(some.length)] + rest;
        }
        path = random.nextInt(4) == 0 ? path.toUpperCase() : random.nextInt(4) == 0 ? path.toLowerCase() : path;
        tape(path);
        due("watch " + path, x.watch(), model.watch());
        due("watched " + path, x.watched(), model.watched());
    }

    private int pair(int most) {
        return random.nextInt(8) == 0 ? random.nextInt(65536) : random.nextInt(most);
    }

    /** A request, as a rule a good one, and its reply. */
    private void frame() {
        int[] functions = {1, 2, 3, 4, 5, 6, 15, 16, 1, 2, 3, 4, 5, 6, 15, 16, 0, 7, 14, 17, 129, 255};
        int function = functions[random.nextInt(functions.length)];
        int station = x.station(200);
        x.station(station);
        model.station(station);
        int address = random.nextInt(10) == 0 ? 0 : random.nextInt(10) == 0 ? random.nextInt(256) : station;
        int a = pair(function == 2 ? 520 : function == 4 ? 130 : function == 1 || function == 15 ? 260 : 66);
        int n = function == 5 ? new int[] {0, 65280, 1}[random.nextInt(20) == 0 ? 2 : random.nextInt(2)] : function == 6 ? random.nextInt(65536) : pair(20);
        int more = function == 15 ? (n + 7) / 8 : function == 16 ? 2 * n : 0;
        more = Math.min(more, 245) + (random.nextInt(15) == 0 ? random.nextInt(3) - 1 : 0);
        int[] bytes = new int[Math.max(0, function == 15 || function == 16 ? 7 + more : 6 + (random.nextInt(15) == 0 ? random.nextInt(3) - 1 : 0))];
        int[] head = {address, function, a >> 8, a & 255, n >> 8, n & 255, more & 255};
        for (int i = 0; i < bytes.length; i++) {
            bytes[i] = i < 7 && i < head.length ? head[i] : random.nextInt(256);
        }
        int[] sealed = Bench.sealed(bytes);
        if (random.nextInt(15) == 0) {
            sealed[random.nextInt(sealed.length)] ^= 1 << random.nextInt(8);
        }
        tape(sealed);
        int size = model.frame();
        due("frame " + java.util.Arrays.toString(sealed), x.frame(), size);
        for (int i = -1; i <= size; i++) {
            due("byteAt(" + i + ") of " + java.util.Arrays.toString(sealed), x.byteAt(i), model.byteAt(i));
        }
    }

    private void others() {
        int n;
        switch (random.nextInt(7)) {
            case 0:
                due("restart", x.restart(), model.restart());
                break;
            case 1:
                n = random.nextInt(13) - 2;
                due("count(" + n + ")", x.count(n), model.count(n));
                break;
            case 2:
                n = random.nextInt(3) == 0 ? random.nextInt(270) - 10 : 1 + random.nextInt(3);
                due("station(" + n + ")", x.station(n), model.station(n));
                break;
            case 3:
                n = random.nextInt(24) - 2;
                due("end(" + n + ")", x.end(n), model.end(n));
                break;
            case 4:
                due("watch", x.watch(), model.watch());
                break;
            case 5:
                due("frame", x.frame(), model.frame());
                break;
            default:
                n = random.nextInt(2) == 0 ? 99 : 100001;
                due("load(" + n + ")", x.load(n), model.load(n));
        }
    }
}
