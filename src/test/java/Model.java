import java.util.ArrayDeque;
import java.util.ArrayList;
import java.util.Arrays;
import java.util.Deque;
import java.util.List;
import java.util.Locale;
import java.util.regex.Matcher;
import java.util.regex.Pattern;

/** A second program with the same face, written for plainness alone from the document's words. */
final class Model {
    static final int BAD = -1, STOPPED = -2, ZERO = -3, INDEX = -4, NONE = -5;
    private static final int[] START = {0, 256, 512, 768, 832, 896, 960};

    /** Ends a scan. */
    private static final class Stop extends RuntimeException {
        private static final long serialVersionUID = 1;
        final int answer;

        Stop(int answer) {
            super(null, null, false, false);
            this.answer = answer;
        }
    }

    private StringBuilder tape = new StringBuilder();
    private ModelJudge judge = null;
    private ModelCode code = null;
    private boolean loaded = false;
    private int fault = 0;
    private int faultPlace = NONE;
    private final int[] inputs = new int[960];
    private final int[] safeOnes = new int[960];
    private int[] published = new int[960];
    private int[] cells = new int[0];
    private final Deque<Integer> stack = new ArrayDeque<>();
    private int steps = 0;
    private int scans = 0;
    private int scansAbove = 0;
    private int now = 0;
    private boolean stopped = false;
    private int watchedValue = 0;
    private int stationNumber = 1;
    private int[] out = new int[0];

    int feed(int... numbers) {
        if (tape.length() + 20 > 16384) {
            return BAD;
        }
        for (int number : numbers) {
            for (int k = 3; k >= 0; k--) {
                tape.append((char) (number >>> 8 * k & 255));
            }
        }
        return tape.length();
    }

    int end(int n) {
        if (n < 0 || n > 20 || tape.length() < 20) {
            return BAD;
        }
        tape.setLength(tape.length() - 20 + n);
        return tape.length();
    }

    private String useUp() {
        String all = tape.toString();
        tape = new StringBuilder();
        return all;
    }

    int load(int budget) {
        if (budget < 100 || budget > 100000) {
            return BAD;
        }
        loaded = false;
        steps = 0;
        scans = 0;
        scansAbove = 0;
        now = 0;
        stopped = false;
        fault = 0;
        faultPlace = NONE;
        try {
            ModelReader.Node tree = ModelReader.read(useUp());
            judge = new ModelJudge();
            judge.judge(tree);
            code = new ModelCode();
            code.load(judge, budget);
        } catch (ModelReader.Fault found) {
            fault = found.number;
            faultPlace = found.place;
            return fault;
        }
        loaded = true;
        begin();
        return 0;
    }

    private void begin() {
        cells = new int[judge.allCells];
        for (ModelJudge.Block block : judge.blocks) {
            if (block.kind == 1 || block.kind == 3) {
                begin(block, block.place);
            }
        }
        published = safeOnes.clone();
    }

    private void begin(ModelJudge.Block block, int from) {
        for (ModelJudge.Variable variable : block.variables.values()) {
            if (variable.instance == null) {
                for (int i = 0; i < variable.elements; i++) {
                    cells[from + variable.cell + i] = variable.constant;
                }
            } else if (variable.instance.cells > 0 && variable.instance.kind == 2) {
                begin(variable.instance, from + variable.cell);
            }
        }
    }

    int restart() {
        if (!loaded) {
            return NONE;
        }
        stopped = false;
        begin();
        return 0;
    }

    private static boolean isPlace(int area, int i) {
        return area >= 0 && area <= 5 && i >= 0 && i < (area < 3 ? 256 : 64);
    }

    private static boolean isValue(int area, int v) {
        return area < 3 ? v == 0 || v == 1 : v >= -32768 && v <= 32767;
    }

    int put(int area, int i, int v) {
        if (area == 1 || area == 4 || !isPlace(area, i) || !isValue(area, v)) {
            return BAD;
        }
        if (area == 0 || area == 3) {
            inputs[START[area] + i] = v;
            return 0;
        }
        if (!loaded) {
            return NONE;
        }
        cells[START[area] + i] = v;
        return 0;
    }

    int get(int area, int i) {
        if (!isPlace(area, i)) {
            return BAD;
        }
        if (area == 0 || area == 3) {
            return inputs[START[area] + i];
        }
        if (!loaded) {
            return NONE;
        }
        return area == 1 || area == 4 ? published[START[area] + i] : cells[START[area] + i];
    }

    int safe(int area, int i, int v) {
        if (area != 1 && area != 4 || !isPlace(area, i) || !isValue(area, v)) {
            return BAD;
        }
        safeOnes[START[area] + i] = v;
        return 0;
    }

    int scan(int ticks) {
        if (ticks < 0 || ticks > 100000) {
            return BAD;
        }
        if (!loaded) {
            return NONE;
        }
        if (stopped) {
            return STOPPED;
        }
        now += ticks;
        for (int i = 0; i < 960; i++) {
            boolean input = i < 256 || i >= 768 && i < 832;
            cells[i] = input ? inputs[i] : cells[i];
        }
        steps = 0;
        stack.clear();
        int answer;
        try {
            run(judge.blocks.size() - 1, 0);
            answer = steps;
            published = Arrays.copyOf(cells, 960);
        } catch (Stop stop) {
            answer = stop.answer;
            stopped = true;
            published = safeOnes.clone();
        }
        scans++;
        scansAbove += steps > code.bounds.get(code.bounds.size() - 1) ? 1 : 0;
        return answer;
    }

    private void run(int unit, int base) {
        List<ModelCode.Instruction> all = code.units.get(unit);
        int i = 0;
        while (i < all.size()) {
            ModelCode.Instruction one = all.get(i);
            steps++;
            i++;
            int[] n = one.numbers;
            switch (one.op) {
                case "GO": case "BACK": i = one.there[0]; break;
                case "UNLESS": i = stack.pop() == 0 ? one.there[0] : i; break;
                case "COUNT": cells[base + n[0]] = n[1]; break;
                case "NEXT":
                    if (cells[base + n[0]] == 0) {
                        i = one.there[0];
                    } else {
                        cells[base + n[0]]--;
                    }
                    break;
                case "ENTER": run(n[0], base + n[1]); break;
                case "CALL": run(n[0], judge.blocks.get(n[0]).place); break;
                case "BLOCK": standard(n[0], base + n[1]); break;
                case "LEAVE": return;
                default: compute(one.op, n, base);
            }
        }
    }

    private void compute(String op, int[] n, int base) {
        int y;
        int x;
        switch (op) {
            case "PUSH": stack.push(n[0]); break;
            case "LOAD": stack.push(cells[base + n[0]]); break;
            case "STORE": cells[base + n[0]] = stack.pop(); break;
            case "READ": stack.push(cells[judge.blocks.get(n[0]).place + n[1]]); break;
            case "WRITE": cells[judge.blocks.get(n[0]).place + n[1]] = stack.pop(); break;
            case "ONE": stack.push(ModelCode.one(n[0], stack.pop())); break;
            case "TAKE": stack.push(cells[base + n[0] + index(stack.pop(), n)]); break;
            case "PUT":
                y = stack.pop();
                cells[base + n[0] + index(stack.pop(), n)] = y;
                break;
            case "CHOOSE":
                y = stack.pop();
                x = stack.pop();
                stack.push(stack.pop() != 0 ? y : x);
                break;
            default:
                y = stack.pop();
                x = stack.pop();
                if (y == 0 && List.of(3, 4, 8, 9).contains(n[0])) {
                    throw new Stop(ZERO);
                }
                stack.push(ModelCode.two(n[0], x, y));
        }
    }

    private static int index(int i, int[] n) {
        long at = (long) i - n[1];
        if (at < 0 || at >= n[2]) {
            throw new Stop(INDEX);
        }
        return (int) at;
    }

    private void standard(int kind, int c) {
        boolean first = cells[c] != 0;
        boolean second = cells[c + 1] != 0;
        if (kind <= 2) {
            timer(kind, c, first);
        } else if (kind <= 4) {
            counter(kind, c, first, second);
        } else if (kind <= 6) {
            boolean m = cells[c + 2] != 0;
            cells[c + 1] = (kind == 5 ? first && !m : !first && m) ? 1 : 0;
            cells[c + 2] = first ? 1 : 0;
        } else {
            boolean q = cells[c + 2] != 0;
            cells[c + 2] = (kind == 7 ? first || !second && q : !second && (first || q)) ? 1 : 0;
        }
    }

    /** Sentence by sentence: Q is cell 2, ET 3, M 4, L 5. */
    private void timer(int kind, int c, boolean in) {
        long p = Math.max(cells[c + 1], 0);
        boolean m = cells[c + 4] != 0;
        long sum = cells[c + 3] + (now - (long) cells[c + 5]);
        int lesser = (int) Math.min(p, sum);
        if (kind == 0) {
            cells[c + 3] = !in || !m ? 0 : lesser;
            cells[c + 2] = in && cells[c + 3] >= p ? 1 : 0;
        } else if (kind == 1) {
            if (in) {
                cells[c + 2] = 1;
                cells[c + 3] = 0;
            } else if (m) {
                cells[c + 3] = 0;
                cells[c + 2] = p > 0 ? 1 : 0;
            } else if (cells[c + 2] != 0) {
                cells[c + 3] = lesser;
                cells[c + 2] = cells[c + 3] < p ? 1 : 0;
            }
        } else {
            if (cells[c + 2] != 0) {
                cells[c + 3] = lesser;
                cells[c + 2] = cells[c + 3] >= p ? 0 : cells[c + 2];
            }
            if (cells[c + 2] == 0) {
                if (in && !m) {
                    cells[c + 3] = 0;
                    cells[c + 2] = p > 0 ? 1 : 0;
                } else if (!in) {
                    cells[c + 3] = 0;
                }
            }
        }
        cells[c + 4] = in ? 1 : 0;
        cells[c + 5] = now;
    }

    private void counter(int kind, int c, boolean counts, boolean sets) {
        boolean m = cells[c + 5] != 0;
        if (kind == 3) {
            if (sets) {
                cells[c + 4] = 0;
            } else if (counts && !m && cells[c + 4] < 32767) {
                cells[c + 4]++;
            }
            cells[c + 3] = cells[c + 4] >= cells[c + 2] ? 1 : 0;
        } else {
            if (sets) {
                cells[c + 4] = cells[c + 2];
            } else if (counts && !m && cells[c + 4] > -32768) {
                cells[c + 4]--;
            }
            cells[c + 3] = cells[c + 4] <= 0 ? 1 : 0;
        }
        cells[c + 5] = counts ? 1 : 0;
    }

    int watch() {
        String path = useUp();
        if (!loaded) {
            return NONE;
        }
        ModelJudge.Block block = judge.blocks.get(judge.blocks.size() - 1);
        int cell = 0;
        String[] names = path.split("\\.", -1);
        for (int i = 0; i < names.length; i++) {
            Matcher matcher = Pattern.compile("([A-Za-z_][A-Za-z0-9_]*)(?:\\[(-?[0-9]+)\\])?", Pattern.DOTALL).matcher(names[i]);
            if (!matcher.matches()) {
                return BAD;
            }
            ModelJudge.Variable variable = block.variables.get(matcher.group(1).toUpperCase(Locale.ROOT));
            boolean last = i == names.length - 1;
            if (variable == null || last == (variable.instance != null) || variable.array != (matcher.group(2) != null)) {
                return BAD;
            }
            cell += variable.cell;
            if (last) {
                return show(variable, cell, matcher.group(2));
            }
            block = variable.instance;
        }
        return BAD;
    }

    private int show(ModelJudge.Variable variable, int cell, String index) {
        int at = 0;
        if (index != null) {
            java.math.BigInteger element = new java.math.BigInteger(index).subtract(java.math.BigInteger.valueOf(variable.low));
            if (element.signum() < 0 || element.compareTo(java.math.BigInteger.valueOf(variable.elements)) >= 0) {
                return BAD;
            }
            at = element.intValue();
        }
        watchedValue = cells[cell + at];
        return variable.type;
    }

    int watched() {
        return watchedValue;
    }

    int station(int n) {
        if (n < 1 || n > 247) {
            return BAD;
        }
        int was = stationNumber;
        stationNumber = n;
        return was;
    }

    int byteAt(int i) {
        return i < 0 || i >= out.length ? BAD : out[i];
    }

    int count(int which) {
        if (which < 0 || which > 9) {
            return BAD;
        }
        if (which == 0) {
            return fault;
        }
        if (which == 1) {
            return faultPlace;
        }
        if (!loaded) {
            return 0;
        }
        int instructions = 0;
        for (List<ModelCode.Instruction> unit : code.units) {
            instructions += unit.size();
        }
        int bound = (int) (long) code.bounds.get(code.bounds.size() - 1);
        return new int[] {bound, instructions, judge.allCells, steps, scans, scansAbove, now, stopped ? 1 : 0}[which - 2];
    }

    int frame() {
        String all = useUp();
        out = new int[0];
        int[] bytes = all.chars().toArray();
        int size = bytes.length;
        if (size < 4 || size > 256 || !loaded) {
            return 0;
        }
        if (!Arrays.equals(bytes, Bench.sealed(Arrays.copyOf(bytes, size - 2))) || bytes[0] != 0 && bytes[0] != stationNumber) {
            return 0;
        }
        int[] data = Arrays.copyOfRange(bytes, 2, size - 2);
        int refused = refused(bytes[1], data);
        if (refused == 0) {
            write(bytes[1], data);
        }
        if (bytes[0] == 0) {
            return 0;
        }
        List<Integer> reply = new ArrayList<>();
        reply.add(bytes[0]);
        if (refused != 0) {
            reply.add(bytes[1] | 128);
            reply.add(refused);
        } else {
            reply.add(bytes[1]);
            answer(bytes[1], data, reply);
        }
        out = Bench.sealed(reply.stream().mapToInt(b -> b).toArray());
        return out.length;
    }

    private static int number(int[] data, int i) {
        return 256 * data[i] + data[i + 1];
    }

    private static int refused(int function, int[] data) {
        if (!List.of(1, 2, 3, 4, 5, 6, 15, 16).contains(function)) {
            return 1;
        }
        if (function <= 6 ? data.length != 4 : data.length < 6 || data.length != 5 + data[4]) {
            return 3;
        }
        int n = number(data, 2);
        boolean good;
        switch (function) {
            case 1: case 2: good = n >= 1 && n <= 2000; break;
            case 3: case 4: good = n >= 1 && n <= 125; break;
            case 5: good = n == 0 || n == 65280; break;
            case 6: good = true; break;
            case 15: good = n >= 1 && n <= 1968 && data[4] == (n + 7) / 8; break;
            default: good = n >= 1 && n <= 123 && data[4] == 2 * n;
        }
        if (!good) {
            return 3;
        }
        int places = function == 5 || function == 6 ? 1 : n;
        int table = function == 2 ? 512 : function == 4 ? 128 : function == 1 || function == 5 || function == 15 ? 256 : 64;
        return number(data, 0) + places - 1 >= table ? 2 : 0;
    }

    private void write(int function, int[] data) {
        int a = number(data, 0);
        int n = number(data, 2);
        switch (function) {
            case 5: cells[512 + a] = n != 0 ? 1 : 0; break;
            case 6: cells[896 + a] = (short) n; break;
            case 15:
                for (int i = 0; i < n; i++) {
                    cells[512 + a + i] = data[5 + i / 8] >> i % 8 & 1;
                }
                break;
            case 16:
                for (int i = 0; i < n; i++) {
                    cells[896 + a + i] = (short) number(data, 5 + 2 * i);
                }
                break;
            default:
        }
    }

    private void answer(int function, int[] data, List<Integer> reply) {
        int a = number(data, 0);
        int n = number(data, 2);
        if (function <= 2) {
            int[] bytes = new int[(n + 7) / 8];
            for (int i = 0; i < n; i++) {
                int place = a + i;
                int bit = function == 1 ? cells[512 + place] : place < 256 ? inputs[place] : published[256 + place - 256];
                bytes[i / 8] |= bit << i % 8;
            }
            reply.add(bytes.length);
            for (int b : bytes) {
                reply.add(b);
            }
        } else if (function <= 4) {
            reply.add(2 * n);
            for (int i = 0; i < n; i++) {
                int place = a + i;
                int word = function == 3 ? cells[896 + place] : place < 64 ? inputs[768 + place] : published[832 + place - 64];
                reply.add(word >> 8 & 255);
                reply.add(word & 255);
            }
        } else {
            for (int i = 0; i < 4; i++) {
                reply.add(data[i]);
            }
        }
    }
}
