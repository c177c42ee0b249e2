/** What the tests share: calls with texts, answers that are due, and the sum at the end. */
final class Bench {
    private static int wrong = 0;
    private static int asked = 0;

    private Bench() {
    }

    static void due(String what, long got, long want) {
        asked++;
        if (got != want) {
            tell(what + " answered " + got + ", due is " + want);
        }
    }

    /** After some wrong answers the others are counted alone; of long ones both ends are told. */
    private static void tell(String line) {
        wrong++;
        int length = line.length();
        if (wrong <= 40) {
            System.out.println(length <= 2000 ? line : line.substring(0, 1000) + " .. " + line.substring(length - 1000));
        }
    }

    static void finish(String test) {
        System.out.println(test + ": " + asked + " answers, " + wrong + " wrong");
        if (wrong != 0) {
            System.exit(1);
        }
    }

    /** Calls that are due to end: if they do not within some seconds, that is told and the test is over. */
    static void ends(String what, Runnable calls) {
        Thread thread = new Thread(calls);
        thread.setDaemon(true);
        thread.start();
        try {
            thread.join(20000);
        } catch (InterruptedException e) {
            tell(what + " was interrupted");
        }
        if (thread.isAlive()) {
            System.out.println(what + " did not end within 20 seconds");
            System.exit(1);
        }
    }

    /** Lays some bytes on the tape; those that are no twenty come first, so that it can get full. */
    static void tape(PlantKeeper x, int... bytes) {
        int odd = bytes.length % 20;
        if (odd != 0) {
            feed(x, bytes, 0);
            x.end(odd);
        }
        for (int i = odd; i < bytes.length; i += 20) {
            feed(x, bytes, i);
        }
    }

    private static void feed(PlantKeeper x, int[] bytes, int from) {
        int[] w = new int[5];
        for (int k = 0; k < 20; k++) {
            int b = from + k < bytes.length ? bytes[from + k] : 0;
            w[k / 4] |= (b & 255) << 24 - 8 * (k % 4);
        }
        x.feed(w[0], w[1], w[2], w[3], w[4]);
    }

    static void tape(PlantKeeper x, String text) {
        int[] bytes = new int[text.length()];
        for (int i = 0; i < bytes.length; i++) {
            bytes[i] = text.charAt(i);
        }
        tape(x, bytes);
    }

    static int load(PlantKeeper x, String text) {
        return load(x, text, 100000);
    }

    static int load(PlantKeeper x, String text, int budget) {
        tape(x, text);
        return x.load(budget);
    }

    /** A new object with a text that is due to load. */
    static PlantKeeper loaded(String text) {
        PlantKeeper x = new PlantKeeper();
        due("load " + text, load(x, text), 0);
        return x;
    }

    /** A text is due to be refused; the place is where the mark @ stands in it, which is left out. */
    static void refused(int fault, String marked) {
        refused(fault, marked, 100000);
    }

    static void refused(int fault, String marked, int budget) {
        int place = marked.indexOf('@');
        String text = place < 0 ? marked : marked.substring(0, place) + marked.substring(place + 1);
        PlantKeeper x = new PlantKeeper();
        due("load " + marked, load(x, text, budget), fault);
        due("count(0) of " + marked, x.count(0), fault);
        due("place of " + marked, x.count(1), fault == 0 ? PlantKeeper.NONE : Math.max(place, 0));
        loadAgain(x, marked, text, budget);
    }

    private static PlantKeeper used = new PlantKeeper();
    private static int usedCalls = 0;

    /** An object that has loaded other texts before is due to tell the same as a new one. */
    private static void loadAgain(PlantKeeper fresh, String marked, String text, int budget) {
        usedCalls += text.length() / 20 + 10;
        if (usedCalls > 512) {
            used = new PlantKeeper();
            usedCalls = text.length() / 20 + 10;
        }
        load(used, text, budget);
        for (int which = 0; which <= 4; which++) {
            due("count(" + which + ") behind other texts, of " + marked, used.count(which), fresh.count(which));
        }
    }

    static void accepted(String text) {
        refused(0, text);
    }

    /** What a path comes to, which is due to be of a type. */
    static void watched(PlantKeeper x, String path, int type, int value) {
        tape(x, path);
        due("watch " + path, x.watch(), type);
        due("watched " + path, x.watched(), value);
    }

    static void notWatched(PlantKeeper x, String path) {
        int before = x.watched();
        tape(x, path);
        due("watch " + path, x.watch(), PlantKeeper.BAD);
        due("watched behind " + path, x.watched(), before);
    }

    /** A frame with its check sum behind it. */
    static int[] sealed(int... bytes) {
        int sum = 0xFFFF;
        for (int b : bytes) {
            sum ^= b;
            for (int i = 0; i < 8; i++) {
                sum = (sum & 1) != 0 ? (sum >> 1) ^ 0xA001 : sum >> 1;
            }
        }
        int[] all = java.util.Arrays.copyOf(bytes, bytes.length + 2);
        all[bytes.length] = sum & 255;
        all[bytes.length + 1] = sum >> 8;
        return all;
    }

    /** A request is due to be replied to with these bytes and their check sum; none is silence. */
    static void replied(PlantKeeper x, int[] request, int... reply) {
        String what = java.util.Arrays.toString(request);
        int[] want = reply.length == 0 ? reply : sealed(reply);
        tape(x, sealed(request));
        due("frame " + what, x.frame(), want.length);
        for (int i = 0; i < want.length; i++) {
            due("byteAt " + i + " of " + what, x.byteAt(i), want[i]);
        }
        due("behind the out of " + what, x.byteAt(want.length), PlantKeeper.BAD);
    }

    static void dueText(String what, String got, String want) {
        asked++;
        if (!got.equals(want)) {
            tell(what + " answered\n  " + got + ", due is\n  " + want);
        }
    }

    /** How many bytes lie on the tape, as long as there is room for twenty more. */
    static int onTape(PlantKeeper x) {
        return x.feed(0, 0, 0, 0, 0) == PlantKeeper.BAD ? PlantKeeper.BAD : x.end(0);
    }

    /** All that can be asked without a change: counts, some places, what was watched, station, out. */
    static String state(PlantKeeper x) {
        StringBuilder all = new StringBuilder("counts");
        for (int which = 0; which <= 9; which++) {
            all.append(' ').append(x.count(which));
        }
        for (int area = 0; area <= 5; area++) {
            all.append(" area ").append(area).append(':');
            for (int i : area < 3 ? new int[] {0, 1, 7, 255} : new int[] {0, 1, 7, 63}) {
                all.append(' ').append(x.get(area, i));
            }
        }
        int station = x.station(1);
        x.station(station);
        all.append(" watched ").append(x.watched()).append(" station ").append(station).append(" out");
        for (int i = 0; i < 256 && x.byteAt(i) != PlantKeeper.BAD; i++) {
            all.append(' ').append(x.byteAt(i));
        }
        return all.toString();
    }
}
