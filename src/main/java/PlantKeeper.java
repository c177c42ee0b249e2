import java.util.Arrays;

/**
 * A keeper of a plant: a text for a controller is read, judged, coded and proved, or refused with
 * its first fault; then it is run in scans, and between scans requests from a serial line are
 * answered. README.md tells how to use it.
 */
public final class PlantKeeper {
    public static final int BAD = -1, STOPPED = -2, ZERO = -3, INDEX = -4, NONE = -5;

    private static final int TAPE_SIZE = 16384;
    /** No node, no variable, no block, no name, no instruction. */
    private static final int NOTHING = -1;
    private static final int BOOL = 0, INT = 1, DINT = 2;
    /** Where a variable stands; a FUNCTION's own name stands in no section. */
    private static final int VAR = 0, VAR_INPUT = 1, VAR_OUTPUT = 2, OWN_NAME = 3;
    private static final int INPUT_BITS = 0, OUTPUT_BITS = 1, MEMORY_BITS = 2;
    private static final int INPUT_WORDS = 3, OUTPUT_WORDS = 4, MEMORY_WORDS = 5;
    private static final int AREA_CELLS = 960;
    private static final int[] AREA_START = {0, 256, 512, 768, 832, 896, 960};
    private static final int MOST_CELLS = 8192;
    private static final int MOST_UNITS = 16;
    private static final int MOST_INSTRUCTIONS = 4000;

    private final byte[] tape;
    private int tapeSize;
    private int fault;
    private int faultPlace;
    private int watchedValue;
    private final Names names;
    private final Tokens tokens;
    private final Parser parser;
    private final Tree tree;
    private final Plan plan;
    private final Judge judge;
    private final Code code;
    private final Coder coder;
    private final Prover prover;
    private final Machine machine;
    private final Line line;

    public PlantKeeper() {
        tape = new byte[TAPE_SIZE];
        faultPlace = NONE;
        names = new Names();
        tokens = new Tokens(names);
        tree = new Tree();
        parser = new Parser(tokens, tree);
        plan = new Plan();
        judge = new Judge(tree, plan);
        code = new Code();
        coder = new Coder(tree, plan, code);
        prover = new Prover(code);
        machine = new Machine(code, plan);
        line = new Line(machine);
    }

    public int feed(int a, int b, int c, int d, int e) {
        if (tapeSize + 20 > TAPE_SIZE) {
            return BAD;
        }
        append(a);
        append(b);
        append(c);
        append(d);
        append(e);
        return tapeSize;
    }

    private void append(int number) {
        for (int shift = 24; shift >= 0 && tapeSize < TAPE_SIZE; shift -= 8) {
            tape[tapeSize] = (byte) (number >> shift);
            tapeSize++;
        }
    }

    public int end(int n) {
        if (n < 0 || n > 20 || tapeSize < 20) {
            return BAD;
        }
        tapeSize = tapeSize - 20 + n;
        return tapeSize;
    }

    public int load(int budget) {
        if (budget < 100 || budget > 100000) {
            return BAD;
        }
        machine.forget();
        fault = 0;
        faultPlace = NONE;
        names.forget();
        tokens.read(tape, tapeSize);
        tapeSize = 0;
        note(parser.parse(), parser.faultPlace);
        if (fault == 0) {
            note(judge.judge(), judge.faultPlace);
        }
        if (fault == 0) {
            note(coder.codeAll(), 0);
        }
        if (fault == 0) {
            proveAll(budget);
        }
        if (fault == 0) {
            machine.begin(prover.bounds[plan.program - Plan.STANDARD]);
        }
        return fault;
    }

    private void note(int found, int where) {
        if (found != 0) {
            fault = found;
            faultPlace = where;
        }
    }

    private void proveAll(int budget) {
        for (int unit = 0; unit < code.units && fault == 0; unit++) {
            note(prover.prove(unit), tree.place[plan.node[Plan.STANDARD + unit]]);
        }
        int program = plan.program;
        if (fault == 0 && prover.bounds[program - Plan.STANDARD] > budget) {
            note(53, tree.place[plan.node[program]]);
        }
    }

    public int restart() {
        if (!machine.loaded) {
            return NONE;
        }
        machine.beginAnew();
        return 0;
    }

    public int put(int area, int i, int v) {
        if (!isPlace(area, i) || area == OUTPUT_BITS || area == OUTPUT_WORDS || !isValue(area, v)) {
            return BAD;
        }
        return machine.change(area, i, v);
    }

    public int get(int area, int i) {
        if (!isPlace(area, i)) {
            return BAD;
        }
        if (!machine.loaded && area != INPUT_BITS && area != INPUT_WORDS) {
            return NONE;
        }
        return machine.seen(area, i);
    }

    public int safe(int area, int i, int v) {
        if (area != OUTPUT_BITS && area != OUTPUT_WORDS || !isPlace(area, i) || !isValue(area, v)) {
            return BAD;
        }
        machine.safeOutputs[AREA_START[area] + i] = v;
        return 0;
    }

    private static boolean isPlace(int area, int i) {
        return area >= 0 && area <= 5 && i >= 0 && i < AREA_START[area + 1] - AREA_START[area];
    }

    private static boolean isValue(int area, int v) {
        return area < INPUT_WORDS ? v == 0 || v == 1 : v >= -32768 && v <= 32767;
    }

    public int scan(int ticks) {
        if (ticks < 0 || ticks > 100000) {
            return BAD;
        }
        if (!machine.loaded) {
            return NONE;
        }
        return machine.stopped ? STOPPED : machine.scanBy(ticks);
    }

    public int watch() {
        int size = tapeSize;
        tapeSize = 0;
        if (!machine.loaded) {
            return NONE;
        }
        return follow(size);
    }

    /** Goes along the path on the tape, from the PROGRAM's cells into those of instances. */
    private int follow(int size) {
        int block = plan.program;
        int base = 0;
        int at = 0;
        for (int turn = 0; turn < TAPE_SIZE && block != NOTHING; turn++) {
            int behind = nameEnd(at, size);
            int variable = plan.variableOf(block, names.find(tape, at, behind - at));
            if (variable == NOTHING) {
                return BAD;
            }
            base += plan.cell[variable];
            block = plan.instanceOf[variable];
            if (block == Plan.SIMPLE) {
                return behind == size ? show(variable, base) : BAD;
            }
            if (block == Plan.ARRAY) {
                int index = indexOnTape(variable, behind, size);
                return index == NOTHING ? BAD : show(variable, base + index);
            }
            if (behind >= size || tape[behind] != '.') {
                return BAD;
            }
            at = behind + 1;
        }
        return BAD;
    }

    private int nameEnd(int from, int size) {
        int i = from;
        while (i < size && Names.isPart(tape[i])) {
            i++;
        }
        return i;
    }

    /** Which element is told by all that stands on the tape from here on. */
    private int indexOnTape(int variable, int from, int size) {
        if (from >= size || tape[from] != '[' || tape[size - 1] != ']') {
            return NOTHING;
        }
        boolean below = from + 1 < size && tape[from + 1] == '-';
        int first = below ? from + 2 : from + 1;
        if (first >= size - 1) {
            return NOTHING;
        }
        long number = 0;
        for (int i = first; i < size - 1; i++) {
            if (tape[i] < '0' || tape[i] > '9') {
                return NOTHING;
            }
            number = Math.min(number * 10 + tape[i] - '0', 1L << 40);
        }
        long index = (below ? -number : number) - plan.low[variable];
        return index >= 0 && index < plan.length[variable] ? (int) index : NOTHING;
    }

    private int show(int variable, int cell) {
        watchedValue = machine.cellAt(cell);
        return plan.type[variable];
    }

    public int watched() {
        return watchedValue;
    }

    public int frame() {
        int size = tapeSize;
        tapeSize = 0;
        return line.answer(tape, size);
    }

    public int station(int n) {
        if (n < 1 || n > 247) {
            return BAD;
        }
        int before = line.station;
        line.station = n;
        return before;
    }

    public int byteAt(int i) {
        return i < 0 || i >= line.outSize ? BAD : line.out[i] & 255;
    }

    public int count(int which) {
        switch (which) {
            case 0: return fault;
            case 1: return faultPlace;
            case 2: return machine.bound;
            case 3: return machine.loaded ? code.size : 0;
            case 4: return machine.loaded ? plan.allCells : 0;
            case 5: return machine.steps;
            case 6: return machine.scans;
            case 7: return machine.scansAbove;
            case 8: return machine.now;
            case 9: return machine.stopped ? 1 : 0;
            default: return BAD;
        }
    }

    /** All names by number: words first, then those of standard blocks, then those of a text. */
    private static final class Names {
        static final int WORDS = 41, STANDARD_BLOCKS = 9, STANDARD_FUNCTIONS = 10;
        static final int FIRST_BLOCK = WORDS;
        static final int FIRST_FUNCTION = FIRST_BLOCK + STANDARD_BLOCKS;
        static final int FIRST_FIELD = FIRST_FUNCTION + STANDARD_FUNCTIONS;
        static final int LONGEST = 32;
        /** There are 27 names of one byte and 999 of two: a text has no room for 5,000 different ones. */
        static final int MOST = 6000;
        private static final int HEADS = 1024;
        private static final String WORD_NAMES = "FUNCTION END_FUNCTION FUNCTION_BLOCK END_FUNCTION_BLOCK PROGRAM END_PROGRAM VAR VAR_INPUT VAR_OUTPUT END_VAR AT BOOL INT DINT ARRAY OF IF THEN ELSIF ELSE END_IF CASE END_CASE FOR TO BY DO END_FOR EXIT RETURN OR XOR AND MOD NOT TRUE FALSE LADDER END_LADDER RUNG END_RUNG ";
        private static final String BLOCK_NAMES = "TON TOF TP CTU CTD R_TRIG F_TRIG SR RS ";
        private static final String FUNCTION_NAMES = "ABS MIN MAX LIMIT SEL SHL SHR TO_INT TO_DINT TO_BOOL ";
        private static final String FIELD_NAMES = "IN PT Q ET CU R PV CV CD LD CLK S1 Q1 S R1 ";

        private final byte[] known;
        private final byte[] letters;
        private final int[] start;
        private final int[] next;
        private final int[] heads;
        private int size;

        Names() {
            int words = WORD_NAMES.length(), blocks = words + BLOCK_NAMES.length();
            int functions = blocks + FUNCTION_NAMES.length();
            known = new byte[functions + FIELD_NAMES.length()];
            spell(WORD_NAMES, known, 0);
            spell(BLOCK_NAMES, known, words);
            spell(FUNCTION_NAMES, known, blocks);
            spell(FIELD_NAMES, known, functions);
            letters = new byte[known.length + TAPE_SIZE];
            start = new int[MOST + 1];
            next = new int[MOST];
            heads = new int[HEADS];
        }

        private static void spell(String list, byte[] row, int from) {
            for (int i = 0; i < list.length() && from + i < row.length; i++) {
                row[from + i] = (byte) list.charAt(i);
            }
        }

        /** Only what is known without a text stays. */
        void forget() {
            Arrays.fill(heads, NOTHING);
            size = 0;
            int from = 0;
            for (int i = 0; i < known.length; i++) {
                if (known[i] == ' ') {
                    numberOf(known, from, i - from);
                    from = i + 1;
                }
            }
        }

        static boolean isStandardFunction(int name) {
            return name >= FIRST_FUNCTION && name < FIRST_FIELD;
        }

        static boolean isLetter(int c) {
            return c >= 'A' && c <= 'Z' || c >= 'a' && c <= 'z' || c == '_';
        }

        static boolean isPart(int c) {
            return isLetter(c) || c >= '0' && c <= '9';
        }

        static int great(int c) {
            return c >= 'a' && c <= 'z' ? c - 32 : c;
        }

        int find(byte[] text, int from, int length) {
            if (length < 1 || length > LONGEST || from < 0 || from + length > text.length) {
                return NOTHING;
            }
            int name = heads[headOf(text, from, length)];
            for (int turn = 0; turn < MOST && name != NOTHING; turn++) {
                if (isSame(name, text, from, length)) {
                    return name;
                }
                name = next[name];
            }
            return NOTHING;
        }

        int numberOf(byte[] text, int from, int length) {
            int name = find(text, from, length);
            boolean fits = length >= 1 && length <= LONGEST && from >= 0 && from + length <= text.length;
            if (name != NOTHING || !fits || size >= MOST || start[size] + length > letters.length) {
                return name;
            }
            name = size;
            for (int i = 0; i < length; i++) {
                letters[start[name] + i] = (byte) great(text[from + i]);
            }
            int head = headOf(text, from, length);
            next[name] = heads[head];
            heads[head] = name;
            size++;
            start[size] = start[name] + length;
            return name;
        }

        private static int headOf(byte[] text, int from, int length) {
            int sum = length;
            for (int i = 0; i < length; i++) {
                sum = sum * 31 + great(text[from + i]);
            }
            return (sum ^ sum >>> 11) & HEADS - 1;
        }

        private boolean isSame(int name, byte[] text, int from, int length) {
            if (start[name + 1] - start[name] != length) {
                return false;
            }
            for (int i = 0; i < length; i++) {
                if (letters[start[name] + i] != great(text[from + i])) {
                    return false;
                }
            }
            return true;
        }
    }

    /** The tokens of a text, up to its end or to the first one that is badly written. */
    private static final class Tokens {
        /** A sign of one byte is its own kind; these kinds are bytes that are no signs. */
        static final int ASSIGN = 1, RANGE = 2, NOT_ABOVE = 3, NOT_BELOW = 4, UNEQUAL = 5;
        static final int END = 6, WRONG = 7, NAME = 8, NUMBER = 9, PLACE = 10;
        static final int WORD = 128;
        static final int FUNCTION = WORD, FUNCTION_BLOCK = WORD + 2, PROGRAM = WORD + 4;
        static final int FIRST_SECTION = WORD + 6, LAST_SECTION = WORD + 8, END_VAR = WORD + 9;
        static final int AT = WORD + 10, FIRST_TYPE = WORD + 11, LAST_TYPE = WORD + 13;
        static final int ARRAY = WORD + 14, OF = WORD + 15, IF = WORD + 16, THEN = WORD + 17;
        static final int ELSIF = WORD + 18, ELSE = WORD + 19, END_IF = WORD + 20;
        static final int CASE = WORD + 21, END_CASE = WORD + 22, FOR = WORD + 23, TO = WORD + 24;
        static final int BY = WORD + 25, DO = WORD + 26, END_FOR = WORD + 27, EXIT = WORD + 28;
        static final int RETURN = WORD + 29, OR = WORD + 30, XOR = WORD + 31, AND = WORD + 32;
        static final int MOD = WORD + 33, NOT = WORD + 34, TRUE = WORD + 35, FALSE = WORD + 36;
        static final int LADDER = WORD + 37, END_LADDER = WORD + 38, RUNG = WORD + 39;
        static final int END_RUNG = WORD + 40;
        private static final String SIGNS = "()[],;:.+-*/=<>&|";
        private static final long GREATEST = 2147483647L;

        final char[] kind;
        final char[] place;
        final int[] value;
        int size;
        private final Names names;
        private byte[] text;
        private int length;
        private int at;

        Tokens(Names names) {
            this.names = names;
            kind = new char[TAPE_SIZE + 1];
            place = new char[TAPE_SIZE + 1];
            value = new int[TAPE_SIZE + 1];
        }

        void read(byte[] tape, int tapeSize) {
            text = tape;
            length = tapeSize;
            at = 0;
            size = 0;
            boolean more = true;
            for (int turn = 0; turn <= TAPE_SIZE && more; turn++) {
                more = skipBlanks() && readToken();
            }
        }

        private int peek(int i) {
            return i >= 0 && i < length ? text[i] & 255 : NOTHING;
        }

        private void add(int newKind, int newValue) {
            if (size < kind.length) {
                kind[size] = (char) newKind;
                place[size] = (char) at;
                value[size] = newValue;
                size++;
            }
        }

        private boolean finish(int newKind, int behind, int newValue) {
            add(newKind, newValue);
            at = behind;
            return true;
        }

        private boolean refuse(int fault) {
            add(WRONG, fault);
            return false;
        }

        private boolean skipBlanks() {
            for (int turn = 0; turn <= TAPE_SIZE; turn++) {
                int c = peek(at);
                if (c == 9 || c == 10 || c == 13 || c == 32) {
                    at++;
                } else if (c == '(' && peek(at + 1) == '*') {
                    int behind = remarkEnd(at + 2);
                    if (behind == NOTHING) {
                        return refuse(2);
                    }
                    at = behind;
                } else {
                    return true;
                }
            }
            return true;
        }

        private int remarkEnd(int from) {
            for (int i = from; i + 1 < length; i++) {
                if (text[i] == '*' && text[i + 1] == ')') {
                    return i + 2;
                }
            }
            return NOTHING;
        }

        private boolean readToken() {
            int c = peek(at);
            if (c == NOTHING) {
                add(END, 0);
                return false;
            }
            if ((c == 'T' || c == 't') && peek(at + 1) == '#') {
                return readTime();
            }
            if (Names.isLetter(c)) {
                return readName();
            }
            if (c >= '0' && c <= '9') {
                return readNumber();
            }
            return c == '%' ? readPlace() : readSign(c);
        }

        private boolean readName() {
            int behind = at;
            while (behind < length && Names.isPart(text[behind])) {
                behind++;
            }
            int name = names.numberOf(text, at, behind - at);
            if (name == NOTHING) {
                return refuse(3);
            }
            boolean word = name < Names.WORDS;
            return finish(word ? WORD + name : NAME, behind, name);
        }

        private static int digit(int c) {
            if (c >= '0' && c <= '9') {
                return c - '0';
            }
            int letter = Names.great(c) - 'A';
            return letter >= 0 && letter < 6 ? 10 + letter : 99;
        }

        private int digitsEnd(int from, int base) {
            int i = from;
            while (i < length && digit(text[i]) < base) {
                i++;
            }
            return i;
        }

        /** What the digits mean, or some number that is too great if they mean more. */
        private long meaning(int from, int behind, int base) {
            long sum = 0;
            for (int i = from; i < behind && i < length; i++) {
                sum = Math.min(sum * base + digit(text[i]), 1L << 33);
            }
            return sum;
        }

        private boolean readNumber() {
            int behind = digitsEnd(at, 10);
            long number = meaning(at, behind, 10);
            if (peek(behind) != '#') {
                return finishNumber(behind, number);
            }
            if (number != 16 && number != 2) {
                return refuse(4);
            }
            int base = (int) number;
            int from = behind + 1;
            behind = digitsEnd(from, base);
            return behind == from ? refuse(4) : finishNumber(behind, meaning(from, behind, base));
        }

        private boolean readTime() {
            int from = at + 2;
            int behind = digitsEnd(from, 10);
            int unit = Names.great(peek(behind));
            if (behind == from || unit != 'M' && unit != 'S' && unit != 'H') {
                return refuse(4);
            }
            long number = meaning(from, behind, 10);
            if (unit == 'M' && Names.great(peek(behind + 1)) == 'S') {
                return finishNumber(behind + 2, number);
            }
            return finishNumber(behind + 1, number * (unit == 'S' ? 1000 : unit == 'M' ? 60000 : 3600000));
        }

        private boolean finishNumber(int behind, long number) {
            if (Names.isPart(peek(behind)) || number > GREATEST) {
                return refuse(4);
            }
            return finish(NUMBER, behind, (int) number);
        }

        private boolean readPlace() {
            int group = "IQM".indexOf((char) Names.great(Math.max(0, peek(at + 1))));
            int width = "XW".indexOf((char) Names.great(Math.max(0, peek(at + 2))));
            int behind = digitsEnd(at + 3, 10);
            if (group < 0 || width < 0 || behind == at + 3 || Names.isPart(peek(behind))) {
                return refuse(5);
            }
            long number = meaning(at + 3, behind, 10);
            if (number > (width == 0 ? 255 : 63)) {
                return refuse(5);
            }
            return finish(PLACE, behind, 256 * (group + 3 * width) + (int) number);
        }

        private boolean readSign(int c) {
            int c2 = peek(at + 1);
            if (c == ':' && c2 == '=') {
                return finish(ASSIGN, at + 2, 0);
            }
            if (c == '.' && c2 == '.') {
                return finish(RANGE, at + 2, 0);
            }
            if (c == '<' && c2 == '=') {
                return finish(NOT_ABOVE, at + 2, 0);
            }
            if (c == '>' && c2 == '=') {
                return finish(NOT_BELOW, at + 2, 0);
            }
            if (c == '<' && c2 == '>') {
                return finish(UNEQUAL, at + 2, 0);
            }
            return SIGNS.indexOf((char) c) < 0 ? refuse(1) : finish(c, at + 1, 0);
        }
    }

    /** The nodes of a text; each knows its first child, and the next one of its parent's children. */
    private static final class Tree {
        static final int TEXT = 0, FUNCTION = 1, FUNCTION_BLOCK = 2, PROGRAM = 3, SECTION = 4;
        static final int DECLARATION = 5, NAME = 6, PLACE = 7, TYPE = 8, ARRAY = 9, BLOCK_TYPE = 10;
        static final int BODY = 11, ASSIGNMENT = 12, INVOCATION = 13, PARAMETER = 14, IF = 15;
        static final int CASE = 16, CHOICE = 17, RANGE = 18, FOR = 19, EXIT = 20, RETURN = 21;
        static final int LADDER = 22, RUNG = 23, ROW = 24, CONTACT = 25, WIRE = 26, GAP = 27;
        static final int COIL = 28, LINK = 29, NUMBER = 30, TRUTH = 31, ELEMENT = 32, OUTPUT = 33;
        static final int CALL = 34, TWO = 35, ONE = 36;
        /** A 6 in a 5, a 6 in a 33, and a 34 of a standard function: kept apart from the others. */
        static final int DECLARED = 37, FIELD = 38, STANDARD_CALL = 39;
        /** No text has more than two nodes a byte (a choice, of two bytes, has four). */
        static final int MOST = 2 * TAPE_SIZE + 16;
        /** The reader's 60 open tokens make at most three levels each. */
        static final int DEEPEST = 240;

        final byte[] kind;
        final byte[] type;
        final char[] place;
        final int[] value;
        final int[] child;
        final int[] next;
        int size;

        Tree() {
            kind = new byte[MOST];
            type = new byte[MOST];
            place = new char[MOST];
            value = new int[MOST];
            child = new int[MOST];
            next = new int[MOST];
        }

        int add(int newKind, int newPlace, int newValue) {
            int node = Math.min(size, MOST - 1);
            kind[node] = (byte) newKind;
            type[node] = BOOL;
            place[node] = (char) newPlace;
            value[node] = newValue;
            child[node] = NOTHING;
            next[node] = NOTHING;
            size = node + 1;
            return node;
        }

        /** Puts a node behind the last one of a parent's children, and tells which one is the last now. */
        int hang(int parent, int last, int node) {
            if (last == NOTHING) {
                child[parent] = node;
            } else {
                next[last] = node;
            }
            return node;
        }

        int second(int node) {
            int first = child[node];
            return first == NOTHING ? NOTHING : next[first];
        }

        /** By how much a FOR goes on: its third constant, or 1 without. */
        int stepOf(int loop) {
            int last = second(loop);
            int third = last == NOTHING ? NOTHING : next[last];
            return isConstant(third) ? value[third] : 1;
        }

        boolean isConstant(int node) {
            return node != NOTHING && (kind[node] == NUMBER || kind[node] == TRUTH);
        }
    }

    /** Makes the tree of a text out of its tokens, or tells its first fault of writing. */
    private static final class Parser {
        private static final int DEEPEST = 60;
        /** What the token is behind a fault: no rule of the grammar goes on with it. */
        private static final int BROKEN = 0;
        private static final int[] LEVEL = {0, 1, 2, 3, 3, 4, 4, 4, 4, 5, 5, 6, 6, 6};

        int faultPlace;
        private final Tokens tokens;
        private final Tree tree;
        private int fault;
        private int at;
        /** The kind of the token that is looked at, and where it begins. */
        private int token;
        private int here;
        /** How many tokens are open. */
        private int open;

        Parser(Tokens tokens, Tree tree) {
            this.tokens = tokens;
            this.tree = tree;
        }

        int parse() {
            fault = 0;
            at = 0;
            token = tokens.kind[0];
            here = tokens.place[0];
            open = 0;
            tree.size = 0;
            int text = tree.add(Tree.TEXT, 0, 0);
            int last = NOTHING;
            for (int turn = 0; turn < TAPE_SIZE && token != Tokens.END && fault == 0; turn++) {
                last = tree.hang(text, last, block());
            }
            return fault;
        }

        /** Goes on behind a token that is due; any other one is the fault of the text. */
        private void take(int due) {
            if (fault == 0 && token == due && at + 1 < tokens.size) {
                at++;
                token = tokens.kind[at];
                here = tokens.place[at];
                return;
            }
            if (fault == 0) {
                fault = token == Tokens.WRONG ? tokens.value[at] : 6;
                faultPlace = here;
            }
            token = BROKEN;
        }

        /** The token here, which can come, is open from now on. */
        private void deepen() {
            if (open >= DEEPEST && fault == 0) {
                fault = 7;
                faultPlace = here;
                token = BROKEN;
            }
            open++;
        }

        private int block() {
            int word = token;
            int kind = word == Tokens.FUNCTION ? Tree.FUNCTION
                : word == Tokens.FUNCTION_BLOCK ? Tree.FUNCTION_BLOCK : Tree.PROGRAM;
            int node = tree.add(kind, here, 0);
            take(kind == Tree.PROGRAM ? Tokens.PROGRAM : word);
            tree.value[node] = tokens.value[at];
            take(Tokens.NAME);
            int last = NOTHING;
            if (kind == Tree.FUNCTION) {
                take(':');
                last = tree.hang(node, last, simpleType());
            }
            for (int turn = 0; turn < TAPE_SIZE && isSection(); turn++) {
                last = tree.hang(node, last, section());
            }
            tree.hang(node, last, token == Tokens.LADDER ? ladder() : statements());
            take(word + 1);
            return node;
        }

        private boolean isSection() {
            return token >= Tokens.FIRST_SECTION && token <= Tokens.LAST_SECTION;
        }

        private int section() {
            int node = tree.add(Tree.SECTION, here, token - Tokens.FIRST_SECTION);
            take(token);
            int last = NOTHING;
            for (int turn = 0; turn < TAPE_SIZE && token == Tokens.NAME; turn++) {
                last = tree.hang(node, last, declaration());
            }
            take(Tokens.END_VAR);
            return node;
        }

        private int declaration() {
            int node = tree.add(Tree.DECLARATION, here, 0);
            int last = tree.hang(node, NOTHING, tree.add(Tree.DECLARED, here, tokens.value[at]));
            take(Tokens.NAME);
            for (int turn = 0; turn < TAPE_SIZE && token == ','; turn++) {
                take(',');
                last = tree.hang(node, last, tree.add(Tree.DECLARED, here, tokens.value[at]));
                take(Tokens.NAME);
            }
            if (token == Tokens.AT) {
                take(Tokens.AT);
                last = tree.hang(node, last, tree.add(Tree.PLACE, here, tokens.value[at]));
                take(Tokens.PLACE);
            }
            take(':');
            last = tree.hang(node, last, type());
            if (token == Tokens.ASSIGN) {
                take(Tokens.ASSIGN);
                tree.hang(node, last, constant());
            }
            take(';');
            return node;
        }

        private int simpleType() {
            int node = tree.add(Tree.TYPE, here, token - Tokens.FIRST_TYPE);
            boolean simple = token >= Tokens.FIRST_TYPE && token <= Tokens.LAST_TYPE;
            take(simple ? token : NOTHING);
            return node;
        }

        private int type() {
            if (token == Tokens.NAME) {
                int node = tree.add(Tree.BLOCK_TYPE, here, tokens.value[at]);
                take(Tokens.NAME);
                return node;
            }
            if (token != Tokens.ARRAY) {
                return simpleType();
            }
            int node = tree.add(Tree.ARRAY, here, 0);
            take(Tokens.ARRAY);
            take('[');
            int last = tree.hang(node, NOTHING, constant());
            take(Tokens.RANGE);
            last = tree.hang(node, last, constant());
            take(']');
            take(Tokens.OF);
            tree.hang(node, last, simpleType());
            return node;
        }

        private int constant() {
            if (token == Tokens.TRUE || token == Tokens.FALSE) {
                int truth = tree.add(Tree.TRUTH, here, token == Tokens.TRUE ? 1 : 0);
                take(token);
                return truth;
            }
            int node = tree.add(Tree.NUMBER, here, 0);
            boolean minus = token == '-';
            if (minus) {
                take('-');
            }
            tree.value[node] = minus ? -tokens.value[at] : tokens.value[at];
            take(Tokens.NUMBER);
            return node;
        }

        private boolean isStatement() {
            return token == ';' || token == Tokens.NAME || token == Tokens.IF || token == Tokens.CASE
                || token == Tokens.FOR || token == Tokens.EXIT || token == Tokens.RETURN;
        }

        private int statements() {
            int body = tree.add(Tree.BODY, here, 0);
            int last = NOTHING;
            for (int turn = 0; turn < TAPE_SIZE && isStatement(); turn++) {
                if (token != ';') {
                    last = tree.hang(body, last, statement());
                }
                take(';');
            }
            return body;
        }

        private int statement() {
            switch (token) {
                case Tokens.IF: return ifStatement();
                case Tokens.CASE: return caseStatement();
                case Tokens.FOR: return forStatement();
                case Tokens.NAME:
                    boolean call = at + 1 < tokens.size && tokens.kind[at + 1] == '(';
                    return call ? invocation() : assignment();
                default:
                    int node = tree.add(token == Tokens.EXIT ? Tree.EXIT : Tree.RETURN, here, 0);
                    take(token);
                    return node;
            }
        }

        private int ifStatement() {
            int node = tree.add(Tree.IF, here, 0);
            deepen();
            int last = NOTHING;
            int word = Tokens.IF;
            for (int turn = 0; turn < TAPE_SIZE && token == word; turn++) {
                take(word);
                last = tree.hang(node, last, wholeExpression());
                take(Tokens.THEN);
                last = tree.hang(node, last, statements());
                word = Tokens.ELSIF;
            }
            if (token == Tokens.ELSE) {
                take(Tokens.ELSE);
                tree.hang(node, last, statements());
            }
            take(Tokens.END_IF);
            open--;
            return node;
        }

        private boolean isConstant() {
            return token == '-' || token == Tokens.NUMBER || token == Tokens.TRUE || token == Tokens.FALSE;
        }

        private int caseStatement() {
            int node = tree.add(Tree.CASE, here, 0);
            deepen();
            take(Tokens.CASE);
            int last = tree.hang(node, NOTHING, wholeExpression());
            take(Tokens.OF);
            for (int turn = 0; turn < TAPE_SIZE && isConstant(); turn++) {
                int choice = tree.add(Tree.CHOICE, here, 0);
                last = tree.hang(node, last, choice);
                int range = ranges(choice);
                tree.hang(choice, range, statements());
            }
            if (token == Tokens.ELSE) {
                take(Tokens.ELSE);
                tree.hang(node, last, statements());
            }
            take(Tokens.END_CASE);
            open--;
            return node;
        }

        private int ranges(int choice) {
            int last = NOTHING;
            boolean more = true;
            for (int turn = 0; turn < TAPE_SIZE && more; turn++) {
                int range = tree.add(Tree.RANGE, here, 0);
                int first = tree.hang(range, NOTHING, constant());
                if (token == Tokens.RANGE) {
                    take(Tokens.RANGE);
                    tree.hang(range, first, constant());
                }
                last = tree.hang(choice, last, range);
                more = token == ',';
                take(more ? ',' : ':');
            }
            return last;
        }

        private int forStatement() {
            int node = tree.add(Tree.FOR, here, 0);
            deepen();
            take(Tokens.FOR);
            tree.value[node] = tokens.value[at];
            take(Tokens.NAME);
            take(Tokens.ASSIGN);
            int last = tree.hang(node, NOTHING, constant());
            take(Tokens.TO);
            last = tree.hang(node, last, constant());
            if (token == Tokens.BY) {
                take(Tokens.BY);
                last = tree.hang(node, last, constant());
            }
            take(Tokens.DO);
            tree.hang(node, last, statements());
            take(Tokens.END_FOR);
            open--;
            return node;
        }

        private int assignment() {
            int target = tree.add(Tree.NAME, here, tokens.value[at]);
            take(Tokens.NAME);
            if (token == '[') {
                tree.kind[target] = Tree.ELEMENT;
                deepen();
                take('[');
                tree.hang(target, NOTHING, wholeExpression());
                take(']');
                open--;
            }
            int node = tree.add(Tree.ASSIGNMENT, here, 0);
            take(Tokens.ASSIGN);
            tree.hang(node, NOTHING, target);
            tree.hang(node, target, wholeExpression());
            return node;
        }

        private int invocation() {
            int node = tree.add(Tree.INVOCATION, here, tokens.value[at]);
            take(Tokens.NAME);
            deepen();
            take('(');
            int last = NOTHING;
            boolean more = token != ')';
            for (int turn = 0; turn < TAPE_SIZE && more; turn++) {
                int parameter = tree.add(Tree.PARAMETER, here, tokens.value[at]);
                take(Tokens.NAME);
                take(Tokens.ASSIGN);
                tree.hang(parameter, NOTHING, wholeExpression());
                last = tree.hang(node, last, parameter);
                more = token == ',';
                if (more) {
                    take(',');
                }
            }
            take(')');
            open--;
            return node;
        }

        /** Signs between operands are open until the outermost expression ends, so here they close. */
        private int wholeExpression() {
            int before = open;
            int node = expression(0);
            open = before;
            return node;
        }

        private int operator() {
            switch (token) {
                case Tokens.OR: return 0;
                case Tokens.XOR: return 1;
                case Tokens.AND: case '&': return 2;
                case '=': return 3;
                case Tokens.UNEQUAL: return 4;
                case '<': return 5;
                case '>': return 6;
                case Tokens.NOT_ABOVE: return 7;
                case Tokens.NOT_BELOW: return 8;
                case '+': return 9;
                case '-': return 10;
                case '*': return 11;
                case '/': return 12;
                case Tokens.MOD: return 13;
                default: return NOTHING;
            }
        }

        /** Operands with such operators between as bind at least as close as the level tells. */
        private int expression(int level) {
            int left = operand();
            int operator = operator();
            for (int turn = 0; turn < TAPE_SIZE && operator >= 0 && LEVEL[operator] >= level; turn++) {
                int node = tree.add(Tree.TWO, here, operator);
                deepen();
                take(token);
                tree.hang(node, NOTHING, left);
                tree.hang(node, left, expression(LEVEL[operator] + 1));
                left = node;
                operator = operator();
            }
            return left;
        }

        private int operand() {
            int node;
            switch (token) {
                case '-': case Tokens.NOT:
                    node = tree.add(Tree.ONE, here, token == '-' ? 0 : 1);
                    deepen();
                    take(token);
                    tree.hang(node, NOTHING, operand());
                    open--;
                    return node;
                case '(':
                    deepen();
                    take('(');
                    node = expression(0);
                    take(')');
                    open--;
                    return node;
                case Tokens.TRUE: case Tokens.FALSE:
                    node = tree.add(Tree.TRUTH, here, token == Tokens.TRUE ? 1 : 0);
                    take(token);
                    return node;
                case Tokens.NAME:
                    return namedOperand();
                default:
                    node = tree.add(Tree.NUMBER, here, tokens.value[at]);
                    take(Tokens.NUMBER);
                    return node;
            }
        }

        private int namedOperand() {
            int node = tree.add(Tree.NAME, here, tokens.value[at]);
            take(Tokens.NAME);
            if (token == '.') {
                tree.kind[node] = Tree.OUTPUT;
                take('.');
                tree.hang(node, NOTHING, tree.add(Tree.FIELD, here, tokens.value[at]));
                take(Tokens.NAME);
            } else if (token == '[') {
                tree.kind[node] = Tree.ELEMENT;
                deepen();
                take('[');
                tree.hang(node, NOTHING, expression(0));
                take(']');
                open--;
            } else if (token == '(') {
                tree.kind[node] = Tree.CALL;
                deepen();
                take('(');
                int last = NOTHING;
                boolean more = token != ')';
                for (int turn = 0; turn < TAPE_SIZE && more; turn++) {
                    last = tree.hang(node, last, expression(0));
                    more = token == ',';
                    if (more) {
                        take(',');
                    }
                }
                take(')');
                open--;
            }
            return node;
        }

        private int ladder() {
            int node = tree.add(Tree.LADDER, here, 0);
            take(Tokens.LADDER);
            int last = NOTHING;
            for (int turn = 0; turn < TAPE_SIZE && token == Tokens.RUNG; turn++) {
                int rung = tree.add(Tree.RUNG, here, 0);
                take(Tokens.RUNG);
                int lastRow = tree.hang(rung, NOTHING, row());
                for (int further = 0; further < TAPE_SIZE && isCell(); further++) {
                    lastRow = tree.hang(rung, lastRow, row());
                }
                take(Tokens.END_RUNG);
                last = tree.hang(node, last, rung);
            }
            take(Tokens.END_LADDER);
            return node;
        }

        private boolean isCell() {
            return token == Tokens.NAME || token == '/' || token == '>' || token == '<' || token == '-'
                || token == '*' || token == '(';
        }

        private int row() {
            int node = tree.add(Tree.ROW, here, 0);
            int last = tree.hang(node, NOTHING, ladderCell());
            for (int turn = 0; turn < TAPE_SIZE && (token == '|' || isCell()); turn++) {
                if (token == '|') {
                    last = tree.hang(node, last, tree.add(Tree.LINK, here, 0));
                    take('|');
                }
                last = tree.hang(node, last, ladderCell());
            }
            take(';');
            return node;
        }

        private int ladderCell() {
            if (token == '(') {
                return coil();
            }
            if (token == '-' || token == '*') {
                int node = tree.add(token == '-' ? Tree.WIRE : Tree.GAP, here, 0);
                take(token);
                return node;
            }
            int contact = tree.add(Tree.CONTACT, here, token == '/' ? 1 : token == '>' ? 2 : token == '<' ? 3 : 0);
            if (token != Tokens.NAME) {
                take(isCell() ? token : NOTHING);
            }
            int name = tree.add(Tree.NAME, here, tokens.value[at]);
            take(Tokens.NAME);
            tree.hang(contact, NOTHING, name);
            if (token == '.') {
                tree.kind[name] = Tree.OUTPUT;
                take('.');
                tree.hang(name, NOTHING, tree.add(Tree.FIELD, here, tokens.value[at]));
                take(Tokens.NAME);
            }
            return contact;
        }

        private int coil() {
            int node = tree.add(Tree.COIL, here, 0);
            take('(');
            if (token == '/' || token == '+' || token == '-') {
                tree.value[node] = token == '/' ? 1 : token == '+' ? 2 : 3;
                take(token);
            }
            tree.hang(node, NOTHING, tree.add(Tree.NAME, here, tokens.value[at]));
            take(Tokens.NAME);
            take(')');
            return node;
        }
    }

    /** The blocks, the standard ones first, and their variables, each block's behind one another. */
    private static final class Plan {
        static final int STANDARD = 9;
        /** What a variable is an instance of, if it is none. */
        static final int SIMPLE = -1, ARRAY = -2;
        /** The kind of the standard blocks; the others have those of their nodes. */
        static final int STANDARD_KIND = 0;
        /** A block has at least 27 bytes, a variable (with all that it stands in) three. */
        private static final int MOST_BLOCKS = STANDARD + 620, MOST_VARIABLES = 6000;
        private static final int[] STANDARD_CELLS = {6, 6, 6, 6, 6, 3, 3, 3, 3};
        /** For each input and output of the standard blocks: block, name, section, type, cell. */
        private static final int[] STANDARD_VARIABLES = {
            0, 0, 1, 0, 0, 0, 1, 1, 2, 1, 0, 2, 2, 0, 2, 0, 3, 2, 2, 3,
            1, 0, 1, 0, 0, 1, 1, 1, 2, 1, 1, 2, 2, 0, 2, 1, 3, 2, 2, 3,
            2, 0, 1, 0, 0, 2, 1, 1, 2, 1, 2, 2, 2, 0, 2, 2, 3, 2, 2, 3,
            3, 4, 1, 0, 0, 3, 5, 1, 0, 1, 3, 6, 1, 1, 2, 3, 2, 2, 0, 3, 3, 7, 2, 1, 4,
            4, 8, 1, 0, 0, 4, 9, 1, 0, 1, 4, 6, 1, 1, 2, 4, 2, 2, 0, 3, 4, 7, 2, 1, 4,
            5, 10, 1, 0, 0, 5, 2, 2, 0, 1,
            6, 10, 1, 0, 0, 6, 2, 2, 0, 1,
            7, 11, 1, 0, 0, 7, 5, 1, 0, 1, 7, 12, 2, 0, 2,
            8, 13, 1, 0, 0, 8, 14, 1, 0, 1, 8, 12, 2, 0, 2};

        final int[] kind;
        final int[] node;
        final int[] first;
        final int[] behind;
        /** How many cells a block's variables have, and how many it has in all. */
        final int[] variableCells;
        final int[] cells;
        /** Where the cells of a FUNCTION or the PROGRAM begin among all. */
        final int[] place;
        final int[] name;
        final int[] section;
        final int[] instanceOf;
        final int[] type;
        final int[] cell;
        final int[] low;
        final int[] length;
        final int[] constant;
        /** By a name's number: the block of that name, and the last variable of that name. */
        final int[] blockNamed;
        private final int[] lastNamed;
        int blocks;
        int variables;
        int program;
        int allCells;

        Plan() {
            kind = new int[MOST_BLOCKS];
            node = new int[MOST_BLOCKS];
            first = new int[MOST_BLOCKS];
            behind = new int[MOST_BLOCKS];
            variableCells = new int[MOST_BLOCKS];
            cells = new int[MOST_BLOCKS];
            place = new int[MOST_BLOCKS];
            name = new int[MOST_VARIABLES];
            section = new int[MOST_VARIABLES];
            instanceOf = new int[MOST_VARIABLES];
            type = new int[MOST_VARIABLES];
            cell = new int[MOST_VARIABLES];
            low = new int[MOST_VARIABLES];
            length = new int[MOST_VARIABLES];
            constant = new int[MOST_VARIABLES];
            blockNamed = new int[Names.MOST];
            lastNamed = new int[Names.MOST];
        }

        /** Only the standard blocks stay. */
        void forget() {
            Arrays.fill(blockNamed, NOTHING);
            Arrays.fill(lastNamed, NOTHING);
            blocks = 0;
            variables = 0;
            program = NOTHING;
            allCells = 0;
            int row = 0;
            for (int block = 0; block < STANDARD; block++) {
                open(STANDARD_KIND, Names.FIRST_BLOCK + block, NOTHING);
                while (row + 4 < STANDARD_VARIABLES.length && STANDARD_VARIABLES[row] == block) {
                    addStandard(row);
                    row += 5;
                }
                variableCells[block] = STANDARD_CELLS[block];
                cells[block] = STANDARD_CELLS[block];
            }
        }

        private void addStandard(int row) {
            int added = add(Names.FIRST_FIELD + STANDARD_VARIABLES[row + 1], STANDARD_VARIABLES[row + 2]);
            type[added] = STANDARD_VARIABLES[row + 3];
            cell[added] = STANDARD_VARIABLES[row + 4];
        }

        int open(int newKind, int newName, int newNode) {
            int block = Math.min(blocks, MOST_BLOCKS - 1);
            kind[block] = newKind;
            node[block] = newNode;
            first[block] = variables;
            behind[block] = variables;
            variableCells[block] = newKind == Tree.PROGRAM ? AREA_CELLS : 0;
            cells[block] = variableCells[block];
            place[block] = 0;
            blockNamed[newName] = block;
            blocks = block + 1;
            if (newKind == Tree.PROGRAM) {
                program = block;
            }
            return block;
        }

        /** A new variable of the last block, simple and without a cell of its own as yet. */
        int add(int newName, int newSection) {
            int variable = Math.min(variables, MOST_VARIABLES - 1);
            name[variable] = newName;
            section[variable] = newSection;
            instanceOf[variable] = SIMPLE;
            type[variable] = BOOL;
            cell[variable] = 0;
            low[variable] = 0;
            length[variable] = 1;
            constant[variable] = 0;
            lastNamed[newName] = variable;
            variables = variable + 1;
            if (blocks > 0) {
                behind[blocks - 1] = variables;
            }
            return variable;
        }

        /** The variable of the last block that has this name. */
        int variableHere(int wanted) {
            int variable = lastNamed[wanted];
            return blocks > 0 && variable >= first[blocks - 1] ? variable : NOTHING;
        }

        int variableOf(int block, int wanted) {
            for (int variable = first[block]; variable < behind[block]; variable++) {
                if (name[variable] == wanted) {
                    return variable;
                }
            }
            return NOTHING;
        }

        /** The input of a block that comes next, from a variable on. */
        int inputFrom(int block, int from) {
            for (int variable = Math.max(from, first[block]); variable < behind[block]; variable++) {
                if (section[variable] == VAR_INPUT) {
                    return variable;
                }
            }
            return NOTHING;
        }

        int inputs(int block) {
            int sum = 0;
            for (int variable = first[block]; variable < behind[block]; variable++) {
                sum += section[variable] == VAR_INPUT ? 1 : 0;
            }
            return sum;
        }

        /** Lays the cells of the PROGRAM first, then those of one FUNCTION behind the other. */
        void layOut() {
            allCells = program == NOTHING ? 0 : cells[program];
            for (int block = STANDARD; block < blocks; block++) {
                if (kind[block] == Tree.FUNCTION) {
                    place[block] = allCells;
                    allCells += cells[block];
                }
            }
        }
    }

    /** Looks at the nodes of a text, each behind its children, and tells the first that breaks a rule. */
    private static final class Judge {
        private static final int MOST_VARIABLE_CELLS = 4096;
        private static final int MOST_ELEMENTS = 256;
        private static final int MOST_TIMES = 1000000;
        private static final int MOST_INPUTS = 8;
        private static final int WIDEST = 12;
        private static final int POWERS = 156;

        int faultPlace;
        private final Tree tree;
        private final Plan plan;
        private int fault;
        private int block;
        private int section;
        private int firstDeclared;
        /** The instance that is invoked, or none if there is no such one. */
        private int invoked;
        private int firstParameter;
        private int row;
        /** How many cells a block's body has of its own. */
        private int ownCells;
        private final int[] loopNames;
        private int loops;
        private final boolean[] taken;

        Judge(Tree tree, Plan plan) {
            this.tree = tree;
            this.plan = plan;
            loopNames = new int[Tree.DEEPEST];
            taken = new boolean[AREA_CELLS];
        }

        int judge() {
            fault = 0;
            loops = 0;
            plan.forget();
            for (int i = 0; i < taken.length; i++) {
                taken[i] = false;
            }
            visit(0, 0);
            return fault;
        }

        private void visit(int node, int depth) {
            if (depth > Tree.DEEPEST) {
                return;
            }
            enter(node);
            int child = tree.child[node];
            for (int turn = 0; turn < tree.size && child != NOTHING && fault == 0; turn++) {
                visit(child, depth + 1);
                child = tree.next[child];
            }
            if (fault == 0) {
                leave(node);
            }
        }

        private void refuse(int number, int node) {
            if (fault == 0) {
                fault = number;
                faultPlace = tree.place[node];
            }
        }

        private void refuseIf(boolean broken, int number, int node) {
            if (broken) {
                refuse(number, node);
            }
        }

        private void enter(int node) {
            switch (tree.kind[node]) {
                case Tree.FUNCTION: case Tree.FUNCTION_BLOCK: case Tree.PROGRAM:
                    enterBlock(node);
                    break;
                case Tree.SECTION:
                    section = tree.value[node];
                    break;
                case Tree.DECLARATION:
                    firstDeclared = plan.variables;
                    break;
                case Tree.INVOCATION:
                    firstParameter = tree.child[node];
                    invoked = plan.variableHere(tree.value[node]);
                    if (invoked != NOTHING && plan.instanceOf[invoked] < 0) {
                        invoked = NOTHING;
                    }
                    break;
                case Tree.CASE:
                    ownCells++;
                    break;
                case Tree.FOR:
                    ownCells++;
                    if (loops < loopNames.length) {
                        loopNames[loops] = tree.value[node];
                        loops++;
                    }
                    break;
                case Tree.LADDER:
                    ownCells += POWERS;
                    break;
                case Tree.ROW:
                    row = node;
                    break;
                default:
            }
        }

        private void enterBlock(int node) {
            int name = tree.value[node];
            refuseIf(plan.program != NOTHING, 10, node);
            refuseIf(plan.blockNamed[name] != NOTHING || Names.isStandardFunction(name), 11, node);
            if (fault != 0) {
                return;
            }
            block = plan.open(tree.kind[node], name, node);
            ownCells = 0;
            if (tree.kind[node] == Tree.FUNCTION) {
                plan.type[plan.add(name, OWN_NAME)] = tree.value[tree.child[node]];
                plan.variableCells[block] = 1;
            }
        }

        private void leave(int node) {
            int child = tree.child[node];
            switch (tree.kind[node]) {
                case Tree.TEXT: leaveText(node); break;
                case Tree.FUNCTION: case Tree.FUNCTION_BLOCK: case Tree.PROGRAM: leaveBlock(node); break;
                case Tree.SECTION: judgeSection(node); break;
                case Tree.DECLARATION: judgeDeclaration(node); break;
                case Tree.DECLARED: declareName(node); break;
                case Tree.PLACE: judgePlace(node); break;
                case Tree.ARRAY: judgeArray(node); break;
                case Tree.BLOCK_TYPE: judgeBlockType(node); break;
                case Tree.ASSIGNMENT: judgeAssignment(node); break;
                case Tree.PARAMETER: judgeParameter(node); break;
                case Tree.INVOCATION: tree.value[node] = variableAt(node, 0); break;
                case Tree.IF: judgeIf(node); break;
                case Tree.CASE: refuseIf(tree.type[child] == BOOL, 34, node); break;
                case Tree.RANGE: judgeRange(node); break;
                case Tree.FOR: judgeFor(node); break;
                case Tree.EXIT: refuseIf(loops == 0, 37, node); break;
                case Tree.RUNG: judgeRung(node); break;
                case Tree.CONTACT: judgeContact(node); break;
                case Tree.COIL: judgeCoil(node); break;
                case Tree.LINK: refuseIf(tree.next[row] == NOTHING, 40, node); break;
                case Tree.NUMBER: tree.type[node] = (byte) (tree.value[node] > 32767 ? DINT : INT); break;
                case Tree.NAME: case Tree.ELEMENT: case Tree.OUTPUT: judgeVariable(node); break;
                case Tree.CALL: judgeCall(node); break;
                case Tree.TWO: judgeTwo(node); break;
                case Tree.ONE: judgeOne(node); break;
                default:
            }
        }

        private void leaveText(int node) {
            plan.layOut();
            refuseIf(plan.program == NOTHING, 10, node);
            refuseIf(plan.allCells > MOST_CELLS, 42, node);
        }

        private void leaveBlock(int node) {
            plan.cells[block] = plan.variableCells[block] + ownCells;
            refuseIf(tree.kind[node] == Tree.FUNCTION && plan.inputs(block) > MOST_INPUTS, 44, node);
        }

        private void judgeSection(int node) {
            boolean wrong = plan.kind[block] == Tree.PROGRAM && section != VAR
                || plan.kind[block] == Tree.FUNCTION && section == VAR_OUTPUT;
            refuseIf(wrong, 13, node);
        }

        private void declareName(int node) {
            int name = tree.value[node];
            boolean known = plan.variableHere(name) != NOTHING || plan.blockNamed[name] != NOTHING
                || Names.isStandardFunction(name);
            if (known) {
                refuse(12, node);
            } else {
                plan.add(name, section);
            }
        }

        private static int placeCell(int place) {
            return AREA_START[place >> 8] + (place & 255);
        }

        private void judgePlace(int node) {
            int cell = placeCell(tree.value[node]);
            boolean wrong = plan.kind[block] != Tree.PROGRAM || plan.variables - firstDeclared > 1;
            refuseIf(wrong || taken[cell], 14, node);
            taken[cell] = true;
        }

        private void judgeArray(int node) {
            int low = tree.child[node];
            int high = tree.second(node);
            boolean truths = tree.kind[low] == Tree.TRUTH || tree.kind[high] == Tree.TRUTH;
            long elements = (long) tree.value[high] - tree.value[low] + 1;
            boolean wrong = plan.kind[block] == Tree.FUNCTION || truths;
            refuseIf(wrong || elements < 1 || elements > MOST_ELEMENTS, 16, node);
        }

        private void judgeBlockType(int node) {
            int meant = plan.blockNamed[tree.value[node]];
            boolean known = meant != NOTHING && meant != block
                && (plan.kind[meant] == Plan.STANDARD_KIND || plan.kind[meant] == Tree.FUNCTION_BLOCK);
            refuseIf(!known || plan.kind[block] == Tree.FUNCTION, 17, node);
        }

        private void judgeDeclaration(int node) {
            int at = tree.child[node];
            for (int turn = 0; turn < tree.size && tree.kind[at] == Tree.DECLARED; turn++) {
                at = tree.next[at];
            }
            int place = NOTHING;
            if (tree.kind[at] == Tree.PLACE) {
                place = tree.value[at];
                at = tree.next[at];
            }
            int constant = tree.next[at];
            int form = tree.kind[at];
            int type = form == Tree.TYPE ? tree.value[at]
                : form == Tree.ARRAY ? tree.value[tree.next[tree.second(at)]] : BOOL;
            refuseIf(section != VAR && form != Tree.TYPE, 43, node);
            int wanted = place >> 8 < INPUT_WORDS ? BOOL : INT;
            refuseIf(place != NOTHING && (form != Tree.TYPE || type != wanted), 15, node);
            if (constant != NOTHING) {
                boolean input = place != NOTHING && (place >> 8 == INPUT_BITS || place >> 8 == INPUT_WORDS);
                boolean wrong = form == Tree.BLOCK_TYPE || input || !isConstantOf(type, constant);
                refuseIf(wrong, 18, node);
            }
            if (fault == 0) {
                settle(at, type, place, constant == NOTHING ? 0 : tree.value[constant]);
            }
            refuseIf(plan.variableCells[block] > MOST_VARIABLE_CELLS, 19, node);
        }

        private boolean isConstantOf(int type, int constant) {
            if (tree.kind[constant] == Tree.TRUTH) {
                return type == BOOL;
            }
            return type != BOOL && isInRange(type, constant);
        }

        private boolean isInRange(int type, int constant) {
            int value = tree.value[constant];
            return type != INT || value >= -32768 && value <= 32767;
        }

        /** What a declaration tells becomes that of all its variables, and they get cells. */
        private void settle(int typeNode, int type, int place, int constant) {
            int form = tree.kind[typeNode];
            int instance = form == Tree.BLOCK_TYPE ? plan.blockNamed[tree.value[typeNode]] : Plan.SIMPLE;
            int low = 0;
            int size = instance >= 0 ? plan.cells[instance] : 1;
            if (form == Tree.ARRAY) {
                instance = Plan.ARRAY;
                low = tree.value[tree.child[typeNode]];
                size = tree.value[tree.second(typeNode)] - low + 1;
            }
            for (int variable = firstDeclared; variable < plan.variables; variable++) {
                plan.instanceOf[variable] = instance;
                plan.type[variable] = type;
                plan.low[variable] = low;
                plan.length[variable] = size;
                plan.constant[variable] = constant;
                if (place == NOTHING) {
                    plan.cell[variable] = plan.variableCells[block];
                    plan.variableCells[block] += size;
                } else {
                    plan.cell[variable] = placeCell(place);
                }
            }
        }

        /** Finds the variable that a node names; FAULT 20 or 21 if there is none of this form. */
        private int variableAt(int node, int form) {
            int variable = plan.variableHere(tree.value[node]);
            refuseIf(variable == NOTHING, 20, node);
            if (fault == 0) {
                int instance = plan.instanceOf[variable];
                refuseIf(form < 0 ? instance != form : instance < 0, 21, node);
            }
            return variable;
        }

        private void judgeVariable(int node) {
            int kind = tree.kind[node];
            int form = kind == Tree.NAME ? Plan.SIMPLE : kind == Tree.ELEMENT ? Plan.ARRAY : 0;
            int variable = variableAt(node, form);
            if (fault != 0) {
                return;
            }
            int child = tree.child[node];
            tree.value[node] = variable;
            tree.type[node] = (byte) plan.type[variable];
            if (kind == Tree.ELEMENT) {
                refuseIf(tree.type[child] == BOOL, 22, node);
            }
            if (kind == Tree.OUTPUT) {
                int output = plan.variableOf(plan.instanceOf[variable], tree.value[child]);
                if (output == NOTHING || plan.section[output] != VAR_OUTPUT) {
                    refuse(23, node);
                    return;
                }
                tree.value[child] = plan.cell[output];
                tree.type[node] = (byte) plan.type[output];
            }
        }

        private void judgeCall(int node) {
            int name = tree.value[node];
            int given = 0;
            int child = tree.child[node];
            for (int turn = 0; turn < tree.size && child != NOTHING; turn++) {
                given++;
                child = tree.next[child];
            }
            if (Names.isStandardFunction(name)) {
                judgeStandardCall(node, name - Names.FIRST_FUNCTION, given);
                return;
            }
            int called = plan.blockNamed[name];
            if (called == NOTHING || called == block || plan.kind[called] != Tree.FUNCTION) {
                refuse(24, node);
                return;
            }
            refuseIf(given != plan.inputs(called), 25, node);
            int input = NOTHING;
            child = tree.child[node];
            for (int turn = 0; turn < given && fault == 0 && child != NOTHING; turn++) {
                input = plan.inputFrom(called, input + 1);
                refuseIf(input == NOTHING || !fits(tree.type[child], plan.type[input]), 26, node);
                child = tree.next[child];
            }
            tree.value[node] = called;
            tree.type[node] = (byte) plan.type[plan.first[called]];
        }

        private void judgeStandardCall(int node, int function, int given) {
            if (given != Code.ARGUMENTS[function]) {
                refuse(25, node);
                return;
            }
            int x = tree.child[node];
            int y = tree.next[x];
            int z = given < 3 ? NOTHING : tree.next[y];
            int typeY = y == NOTHING ? INT : tree.type[y];
            int typeZ = z == NOTHING ? INT : tree.type[z];
            int type = standardType(function, tree.type[x], typeY, typeZ);
            if (type == NOTHING) {
                refuse(26, node);
                return;
            }
            tree.kind[node] = Tree.STANDARD_CALL;
            tree.value[node] = function;
            tree.type[node] = (byte) type;
            boolean constant = tree.isConstant(x) && (y == NOTHING || tree.isConstant(y))
                && (z == NOTHING || tree.isConstant(z));
            if (constant) {
                int valueY = y == NOTHING ? 0 : tree.value[y];
                int valueZ = z == NOTHING ? 0 : tree.value[z];
                fold(node, Code.standard(function, type, tree.value[x], valueY, valueZ));
            }
        }

        /** What a standard function gives, or NOTHING if the types are wrong. */
        private static int standardType(int function, int x, int y, int z) {
            switch (function) {
                case Code.TO_INT: return INT;
                case Code.TO_DINT: return DINT;
                case Code.TO_BOOL: return x == BOOL ? NOTHING : BOOL;
                case Code.SEL: return x == BOOL ? alike(y, z) : NOTHING;
                case Code.SHL: case Code.SHR: return wider(x, y) == NOTHING ? NOTHING : x;
                case Code.ABS: return x == BOOL ? NOTHING : x;
                default:
                    int two = wider(x, y);
                    return two == NOTHING ? NOTHING : wider(two, z);
            }
        }

        /** The wider one of two numbers. */
        private static int wider(int x, int y) {
            return x == BOOL || y == BOOL ? NOTHING : Math.max(x, y);
        }

        /** The type of two BOOLs, or of two numbers. */
        private static int alike(int x, int y) {
            return (x == BOOL) == (y == BOOL) ? Math.max(x, y) : NOTHING;
        }

        private static boolean fits(int type, int wanted) {
            return type == wanted || type == INT && wanted == DINT;
        }

        private void fold(int node, int value) {
            tree.kind[node] = Tree.NUMBER;
            tree.value[node] = value;
            tree.child[node] = NOTHING;
        }

        private void judgeTwo(int node) {
            int x = tree.child[node];
            int y = tree.next[x];
            int operator = tree.value[node];
            boolean numbersAlone = operator > Code.UNEQUAL;
            int type = numbersAlone ? wider(tree.type[x], tree.type[y]) : alike(tree.type[x], tree.type[y]);
            if (type == NOTHING) {
                refuse(27, node);
                return;
            }
            boolean compares = operator >= Code.EQUAL && operator <= Code.NOT_BELOW;
            tree.type[node] = (byte) (compares ? BOOL : type);
            int k = Code.operation(operator, tree.type[node]);
            boolean constant = tree.isConstant(x) && tree.isConstant(y);
            if (constant && !Code.isByZero(k, tree.value[y])) {
                fold(node, Code.two(k, tree.value[x], tree.value[y]));
            }
        }

        private void judgeOne(int node) {
            int x = tree.child[node];
            int type = tree.type[x];
            boolean minus = tree.value[node] == 0;
            refuseIf(minus && type == BOOL, 28, node);
            tree.type[node] = (byte) type;
            if (tree.isConstant(x)) {
                fold(node, Code.one(Code.turning(minus, type), tree.value[x]));
            }
        }

        private void judgeAssignment(int node) {
            int target = tree.child[node];
            judgeAssigned(tree.value[target], node);
            refuseIf(!fits(tree.type[tree.next[target]], tree.type[target]), 31, node);
        }

        private void judgeAssigned(int variable, int node) {
            int cell = plan.cell[variable];
            boolean bit = cell < AREA_START[OUTPUT_BITS];
            boolean word = cell >= AREA_START[INPUT_WORDS] && cell < AREA_START[OUTPUT_WORDS];
            boolean atInput = plan.kind[block] == Tree.PROGRAM && (bit || word);
            refuseIf(plan.section[variable] == VAR_INPUT || atInput, 29, node);
            for (int i = 0; i < loops; i++) {
                refuseIf(loopNames[i] == plan.name[variable], 30, node);
            }
        }

        private void judgeParameter(int node) {
            if (invoked == NOTHING) {
                return;
            }
            int input = plan.variableOf(plan.instanceOf[invoked], tree.value[node]);
            if (input == NOTHING || plan.section[input] != VAR_INPUT) {
                refuse(32, node);
                return;
            }
            tree.value[node] = input;
            refuseIf(isToldBefore(node), 33, node);
            refuseIf(!fits(tree.type[tree.child[node]], plan.type[input]), 31, node);
        }

        /** Whether a parameter before, in the same invocation, is of the same input. */
        private boolean isToldBefore(int node) {
            int before = firstParameter;
            for (int turn = 0; turn < tree.size && before != NOTHING && before != node; turn++) {
                if (tree.value[before] == tree.value[node]) {
                    return true;
                }
                before = tree.next[before];
            }
            return false;
        }

        private void judgeIf(int node) {
            int child = tree.child[node];
            for (int turn = 0; turn < tree.size && child != NOTHING; turn++) {
                refuseIf(tree.kind[child] != Tree.BODY && tree.type[child] != BOOL, 34, node);
                child = tree.next[child];
            }
        }

        private void judgeRange(int node) {
            int low = tree.child[node];
            int high = tree.next[low];
            boolean wrong = tree.kind[low] == Tree.TRUTH;
            if (high != NOTHING) {
                wrong |= tree.kind[high] == Tree.TRUTH || tree.value[low] > tree.value[high];
            }
            refuseIf(wrong, 35, node);
        }

        private void judgeFor(int node) {
            loops--;
            int variable = variableAt(node, Plan.SIMPLE);
            if (fault != 0) {
                return;
            }
            int type = plan.type[variable];
            refuseIf(type == BOOL, 22, node);
            judgeAssigned(variable, node);
            int child = tree.child[node];
            for (int turn = 0; turn < 3 && tree.isConstant(child); turn++) {
                refuseIf(tree.kind[child] == Tree.TRUTH || !isInRange(type, child), 36, node);
                child = tree.next[child];
            }
            int step = tree.stepOf(node);
            refuseIf(step == 0, 36, node);
            int first = tree.value[tree.child[node]];
            refuseIf(Code.times(first, tree.value[tree.second(node)], step) > MOST_TIMES, 36, node);
            tree.value[node] = variable;
            tree.type[node] = (byte) type;
        }

        private void judgeContact(int node) {
            refuseIf(tree.type[tree.child[node]] != BOOL, 41, node);
            ownCells += tree.value[node] >= 2 ? 1 : 0;
        }

        private void judgeCoil(int node) {
            int child = tree.child[node];
            refuseIf(tree.next[node] != NOTHING, 39, node);
            refuseIf(tree.type[child] != BOOL, 41, node);
            judgeAssigned(tree.value[child], node);
        }

        private void judgeRung(int node) {
            int rows = 0;
            int width = NOTHING;
            int line = tree.child[node];
            for (int turn = 0; turn < tree.size && line != NOTHING; turn++) {
                int cells = cellsIn(line);
                width = width == NOTHING ? cells : width;
                rows++;
                refuseIf(rows > WIDEST || cells > WIDEST || cells != width, 38, node);
                line = tree.next[line];
            }
        }

        private int cellsIn(int line) {
            int sum = 0;
            int cell = tree.child[line];
            for (int turn = 0; turn < tree.size && cell != NOTHING; turn++) {
                sum += tree.kind[cell] == Tree.LINK ? 0 : 1;
                cell = tree.next[cell];
            }
            return sum;
        }
    }

    /** The instructions of all units, one unit behind the other, and what those on numbers leave. */
    private static final class Code {
        static final int PUSH = 0, LOAD = 1, STORE = 2, TAKE = 3, PUT = 4, READ = 5, WRITE = 6, TWO = 7;
        static final int ONE = 8, CHOOSE = 9, GO = 10, UNLESS = 11, COUNT = 12, NEXT = 13, BACK = 14;
        static final int ENTER = 15, CALL = 16, BLOCK = 17, LEAVE = 18;
        /** By how much each of these makes the stack higher. */
        static final int[] RISE = {1, 1, -1, 0, -2, 1, -1, -1, 0, -2, 0, -1, 0, 0, 0, 0, 0, 0, 0};
        /** Operators of a TWO in the tree. */
        static final int OR = 0, XOR = 1, EQUAL = 3, UNEQUAL = 4, NOT_BELOW = 8, PLUS = 9;
        /** Kinds of the instruction TWO. */
        static final int PLUS_16 = 0, PLUS_32 = 5, BITS_AND = 10, BITS_OR = 11, BITS_XOR = 12, IS_EQUAL = 13;
        static final int IS_NOT_ABOVE = 17, IS_NOT_BELOW = 18, LESSER = 23, GREATER = 24;
        /** Kinds of the instruction ONE. */
        static final int IS_ZERO = 2;
        static final int ABS = 0, MIN = 1, MAX = 2, LIMIT = 3, SEL = 4, SHL = 5, SHR = 6, TO_INT = 7;
        static final int TO_DINT = 8, TO_BOOL = 9;
        static final int[] ARGUMENTS = {1, 2, 2, 3, 3, 2, 2, 1, 1, 1};

        final byte[] op;
        final int[] a;
        final int[] b;
        final int[] c;
        /** Where each unit begins, and, one further, where it ends. */
        final int[] start;
        int size;
        int units;

        Code() {
            op = new byte[MOST_INSTRUCTIONS];
            a = new int[MOST_INSTRUCTIONS];
            b = new int[MOST_INSTRUCTIONS];
            c = new int[MOST_INSTRUCTIONS];
            start = new int[MOST_UNITS + 1];
        }

        void forget() {
            size = 0;
            units = 0;
        }

        void endUnit() {
            if (units < MOST_UNITS) {
                units++;
                start[units] = size;
            }
        }

        /** Instructions that are too many are counted alone: the text will be refused. */
        int emit(int newOp, int newA) {
            int i = size;
            if (i < MOST_INSTRUCTIONS) {
                op[i] = (byte) newOp;
                a[i] = newA;
                b[i] = 0;
                c[i] = 0;
            }
            size++;
            return i;
        }

        /** The instruction that came last gets two numbers more. */
        void with(int newB, int newC) {
            if (size > 0 && size <= MOST_INSTRUCTIONS) {
                b[size - 1] = newB;
                c[size - 1] = newC;
            }
        }

        /** All jumps of a chain, each of which tells the one before it, go to the next instruction. */
        void joinHere(int chain) {
            int i = chain;
            for (int turn = 0; turn < MOST_INSTRUCTIONS && i >= 0 && i < MOST_INSTRUCTIONS; turn++) {
                int before = a[i];
                a[i] = size;
                i = before;
            }
        }

        /** Which kind of TWO an operator of the tree is. */
        static int operation(int operator, int type) {
            if (operator >= PLUS) {
                return operator - PLUS + (type == INT ? PLUS_16 : PLUS_32);
            }
            if (operator >= EQUAL) {
                return operator - EQUAL + IS_EQUAL;
            }
            return operator == OR ? BITS_OR : operator == XOR ? BITS_XOR : BITS_AND;
        }

        /** Which kind of ONE '-' or NOT is. */
        static int turning(boolean minus, int type) {
            if (minus) {
                return type == INT ? 0 : 1;
            }
            return type == BOOL ? IS_ZERO : 3;
        }

        /** Which kind of ONE or TWO a standard function of one or two operands is. */
        static int standardKind(int function, int type) {
            switch (function) {
                case ABS: return type == INT ? 4 : 5;
                case MIN: return LESSER;
                case MAX: return GREATER;
                case SHL: return type == INT ? 19 : 21;
                case SHR: return type == INT ? 20 : 22;
                case TO_INT: return 6;
                default: return 7;
            }
        }

        /** What the code of a standard function would leave. */
        static int standard(int function, int type, int x, int y, int z) {
            if (function == TO_DINT) {
                return x;
            }
            if (function == SEL) {
                return x != 0 ? z : y;
            }
            if (function == LIMIT) {
                return Math.min(Math.max(x, y), z);
            }
            int k = standardKind(function, type);
            return ARGUMENTS[function] == 1 ? one(k, x) : two(k, x, y);
        }

        static boolean isByZero(int k, int y) {
            return y == 0 && (k == 3 || k == 4 || k == 8 || k == 9);
        }

        static int two(int k, int x, int y) {
            switch (k) {
                case 0: return (short) (x + y);
                case 1: return (short) (x - y);
                case 2: return (short) (x * y);
                case 3: return y == 0 ? 0 : (short) (x / y);
                case 4: return y == 0 ? 0 : (short) (x % y);
                case 5: return x + y;
                case 6: return x - y;
                case 7: return x * y;
                case 8: return y == 0 ? 0 : x / y;
                case 9: return y == 0 ? 0 : x % y;
                case 10: return x & y;
                case 11: return x | y;
                case 12: return x ^ y;
                case 13: return x == y ? 1 : 0;
                case 14: return x != y ? 1 : 0;
                case 15: return x < y ? 1 : 0;
                case 16: return x > y ? 1 : 0;
                case 17: return x <= y ? 1 : 0;
                case 18: return x >= y ? 1 : 0;
                case 19: return y < 0 || y > 15 ? 0 : (short) (x << y);
                case 20: return y < 0 || y > 15 ? 0 : (short) ((x & 65535) >> y);
                case 21: return y < 0 || y > 31 ? 0 : x << y;
                case 22: return y < 0 || y > 31 ? 0 : x >>> y;
                case 23: return Math.min(x, y);
                default: return Math.max(x, y);
            }
        }

        static int one(int k, int x) {
            switch (k) {
                case 0: return (short) -x;
                case 1: return -x;
                case 2: return x == 0 ? 1 : 0;
                case 3: return ~x;
                case 4: return (short) Math.abs(x);
                case 5: return Math.abs(x);
                case 6: return (short) x;
                default: return x == 0 ? 0 : 1;
            }
        }

        /** How often a FOR goes from one constant to another. */
        static long times(int first, int last, int step) {
            long way = step > 0 ? (long) last - first : (long) first - last;
            long stride = Math.abs((long) step);
            return way < 0 || stride == 0 ? 0 : way / stride + 1;
        }
    }

    /** Makes the code of all units out of a tree that breaks no rule. */
    private static final class Coder {
        private static final int WIDTH = 12;

        private final Tree tree;
        private final Plan plan;
        private final Code code;
        private int block;
        /** The next cell of the block's body's own, and the first one for powers. */
        private int ownCell;
        private int powers;
        /** The chain of jumps out of the loop here. */
        private int exits;
        /** For each row and column of a rung: the cell, its own cell of the block, and if a link is behind it. */
        private final int[] grid;
        private final int[] edgeCell;
        private final boolean[] linked;
        private int rows;
        private int columns;

        Coder(Tree tree, Plan plan, Code code) {
            this.tree = tree;
            this.plan = plan;
            this.code = code;
            grid = new int[WIDTH * WIDTH];
            edgeCell = new int[WIDTH * WIDTH];
            linked = new boolean[WIDTH * WIDTH];
        }

        int codeAll() {
            code.forget();
            if (plan.blocks - Plan.STANDARD > MOST_UNITS) {
                return 50;
            }
            for (int coded = Plan.STANDARD; coded < plan.blocks; coded++) {
                block = coded;
                codeBlock();
                code.endUnit();
            }
            return code.size > MOST_INSTRUCTIONS ? 50 : 0;
        }

        private void codeBlock() {
            ownCell = plan.variableCells[block];
            powers = plan.cells[block] - 156;
            exits = NOTHING;
            if (plan.kind[block] == Tree.FUNCTION) {
                beginFunction();
            }
            int body = tree.child[plan.node[block]];
            for (int turn = 0; turn < tree.size && tree.next[body] != NOTHING; turn++) {
                body = tree.next[body];
            }
            if (tree.kind[body] == Tree.BODY) {
                codeBody(body, 0);
                return;
            }
            int rung = tree.child[body];
            for (int turn = 0; turn < tree.size && rung != NOTHING; turn++) {
                codeRung(rung);
                rung = tree.next[rung];
            }
        }

        private void beginFunction() {
            code.emit(Code.PUSH, 0);
            code.emit(Code.STORE, 0);
            for (int variable = plan.first[block]; variable < plan.behind[block]; variable++) {
                if (plan.section[variable] == VAR) {
                    code.emit(Code.PUSH, plan.constant[variable]);
                    code.emit(Code.STORE, plan.cell[variable]);
                }
            }
        }

        private void codeBody(int body, int depth) {
            if (depth > Tree.DEEPEST) {
                return;
            }
            int node = tree.child[body];
            for (int turn = 0; turn < tree.size && node != NOTHING; turn++) {
                switch (tree.kind[node]) {
                    case Tree.ASSIGNMENT: codeAssignment(node); break;
                    case Tree.INVOCATION: codeInvocation(node); break;
                    case Tree.IF: codeIf(node, depth + 1); break;
                    case Tree.CASE: codeCase(node, depth + 1); break;
                    case Tree.FOR: codeFor(node, depth + 1); break;
                    case Tree.EXIT: exits = code.emit(Code.GO, exits); break;
                    default: code.emit(Code.LEAVE, 0);
                }
                node = tree.next[node];
            }
        }

        private void codeAssignment(int node) {
            int target = tree.child[node];
            int variable = tree.value[target];
            if (tree.kind[target] == Tree.NAME) {
                codeExpression(tree.next[target], 0);
                code.emit(Code.STORE, plan.cell[variable]);
            } else {
                codeExpression(tree.child[target], 0);
                codeExpression(tree.next[target], 0);
                code.emit(Code.PUT, plan.cell[variable]);
                code.with(plan.low[variable], plan.length[variable]);
            }
        }

        private void codeInvocation(int node) {
            int variable = tree.value[node];
            int cell = plan.cell[variable];
            int parameter = tree.child[node];
            for (int turn = 0; turn < tree.size && parameter != NOTHING; turn++) {
                codeExpression(tree.child[parameter], 0);
                code.emit(Code.STORE, cell + plan.cell[tree.value[parameter]]);
                parameter = tree.next[parameter];
            }
            int meant = plan.instanceOf[variable];
            if (meant < Plan.STANDARD) {
                code.emit(Code.BLOCK, meant);
            } else {
                code.emit(Code.ENTER, meant - Plan.STANDARD);
            }
            code.with(cell, 0);
        }

        /** A body that is gone through if a condition holds; tells the chain of jumps to the end. */
        private int codeBranch(int body, boolean last, int chain, int depth) {
            int unless = code.emit(Code.UNLESS, NOTHING);
            codeBody(body, depth + 1);
            int ends = last ? chain : code.emit(Code.GO, chain);
            code.joinHere(unless);
            return ends;
        }

        private void codeIf(int node, int depth) {
            int chain = NOTHING;
            int child = tree.child[node];
            for (int turn = 0; turn < tree.size && child != NOTHING; turn++) {
                if (tree.kind[child] == Tree.BODY) {
                    codeBody(child, depth + 1);
                } else {
                    codeExpression(child, 0);
                    child = tree.next[child];
                    chain = codeBranch(child, tree.next[child] == NOTHING, chain, depth);
                }
                child = tree.next[child];
            }
            code.joinHere(chain);
        }

        private void codeCase(int node, int depth) {
            int own = ownCell;
            ownCell++;
            int child = tree.child[node];
            codeExpression(child, 0);
            code.emit(Code.STORE, own);
            int chain = NOTHING;
            child = tree.next[child];
            for (int turn = 0; turn < tree.size && child != NOTHING; turn++) {
                if (tree.kind[child] == Tree.BODY) {
                    codeBody(child, depth + 1);
                } else {
                    int body = codeRanges(child, own);
                    chain = codeBranch(body, tree.next[child] == NOTHING, chain, depth);
                }
                child = tree.next[child];
            }
            code.joinHere(chain);
        }

        /** The condition of a choice; tells its body. */
        private int codeRanges(int choice, int own) {
            int range = tree.child[choice];
            for (int turn = 0; turn < tree.size && tree.kind[range] == Tree.RANGE; turn++) {
                int low = tree.child[range];
                int high = tree.next[low];
                code.emit(Code.LOAD, own);
                code.emit(Code.PUSH, tree.value[low]);
                if (high == NOTHING) {
                    code.emit(Code.TWO, Code.IS_EQUAL);
                } else {
                    code.emit(Code.TWO, Code.IS_NOT_BELOW);
                    code.emit(Code.LOAD, own);
                    code.emit(Code.PUSH, tree.value[high]);
                    code.emit(Code.TWO, Code.IS_NOT_ABOVE);
                    code.emit(Code.TWO, Code.BITS_AND);
                }
                if (turn > 0) {
                    code.emit(Code.TWO, Code.BITS_OR);
                }
                range = tree.next[range];
            }
            return range;
        }

        private void codeFor(int node, int depth) {
            int own = ownCell;
            ownCell++;
            int cell = plan.cell[tree.value[node]];
            int first = tree.value[tree.child[node]];
            int last = tree.value[tree.second(node)];
            int step = tree.stepOf(node);
            int body = tree.next[tree.second(node)];
            if (tree.isConstant(body)) {
                body = tree.next[body];
            }
            code.emit(Code.PUSH, first);
            code.emit(Code.STORE, cell);
            code.emit(Code.COUNT, own);
            code.with((int) Code.times(first, last, step), 0);
            int next = code.emit(Code.NEXT, NOTHING);
            code.with(own, 0);
            int outerExits = exits;
            exits = NOTHING;
            codeBody(body, depth + 1);
            code.emit(Code.LOAD, cell);
            code.emit(Code.PUSH, step);
            code.emit(Code.TWO, tree.type[node] == INT ? Code.PLUS_16 : Code.PLUS_32);
            code.emit(Code.STORE, cell);
            code.emit(Code.BACK, next);
            code.joinHere(next);
            code.joinHere(exits);
            exits = outerExits;
        }

        private void codeExpression(int node, int depth) {
            if (depth > Tree.DEEPEST) {
                return;
            }
            int value = tree.value[node];
            int child = tree.child[node];
            switch (tree.kind[node]) {
                case Tree.NAME: case Tree.OUTPUT:
                    code.emit(Code.LOAD, cellOf(node));
                    break;
                case Tree.ELEMENT:
                    codeExpression(child, depth + 1);
                    code.emit(Code.TAKE, plan.cell[value]);
                    code.with(plan.low[value], plan.length[value]);
                    break;
                case Tree.TWO:
                    codeExpression(child, depth + 1);
                    codeExpression(tree.next[child], depth + 1);
                    code.emit(Code.TWO, Code.operation(value, tree.type[node]));
                    break;
                case Tree.ONE:
                    codeExpression(child, depth + 1);
                    code.emit(Code.ONE, Code.turning(value == 0, tree.type[node]));
                    break;
                case Tree.STANDARD_CALL:
                    codeStandardCall(node, depth);
                    break;
                case Tree.CALL:
                    codeCall(node, depth);
                    break;
                default:
                    code.emit(Code.PUSH, value);
            }
        }

        private void codeStandardCall(int node, int depth) {
            int function = tree.value[node];
            int child = tree.child[node];
            for (int turn = 0; turn < 3 && child != NOTHING; turn++) {
                codeExpression(child, depth + 1);
                if (function == Code.LIMIT && turn > 0) {
                    code.emit(Code.TWO, turn == 1 ? Code.GREATER : Code.LESSER);
                }
                child = tree.next[child];
            }
            if (function == Code.SEL) {
                code.emit(Code.CHOOSE, 0);
            } else if (function != Code.LIMIT && function != Code.TO_DINT) {
                int op = Code.ARGUMENTS[function] == 1 ? Code.ONE : Code.TWO;
                code.emit(op, Code.standardKind(function, tree.type[node]));
            }
        }

        private void codeCall(int node, int depth) {
            int called = tree.value[node];
            int unit = called - Plan.STANDARD;
            int child = tree.child[node];
            for (int turn = 0; turn < tree.size && child != NOTHING; turn++) {
                codeExpression(child, depth + 1);
                child = tree.next[child];
            }
            for (int variable = plan.behind[called] - 1; variable >= plan.first[called]; variable--) {
                if (plan.section[variable] == VAR_INPUT) {
                    code.emit(Code.WRITE, unit);
                    code.with(plan.cell[variable], 0);
                }
            }
            code.emit(Code.CALL, unit);
            code.emit(Code.READ, unit);
        }

        private void codeRung(int rung) {
            layGrid(rung);
            for (int column = 0; column < columns; column++) {
                int row = 0;
                for (int turn = 0; turn < WIDTH && row < rows; turn++) {
                    int last = lastOfGroup(row, column);
                    if (tree.kind[grid[row * WIDTH + column]] != Tree.COIL) {
                        codeGroup(row, last, column);
                    }
                    row = last + 1;
                }
            }
            for (int row = 0; row < rows; row++) {
                int cell = grid[row * WIDTH + columns - 1];
                if (tree.kind[cell] == Tree.COIL) {
                    codeCoil(cell, row);
                }
            }
        }

        private void layGrid(int rung) {
            rows = 0;
            int line = tree.child[rung];
            for (int turn = 0; turn < WIDTH && line != NOTHING; turn++) {
                columns = 0;
                int cell = tree.child[line];
                for (int step = 0; step < 2 * WIDTH && cell != NOTHING; step++) {
                    layCell(cell);
                    cell = tree.next[cell];
                }
                rows++;
                line = tree.next[line];
            }
        }

        private void layCell(int cell) {
            int at = rows * WIDTH + columns;
            if (tree.kind[cell] == Tree.LINK) {
                linked[at - 1] = true;
                return;
            }
            grid[at] = cell;
            linked[at] = false;
            if (tree.kind[cell] == Tree.CONTACT && tree.value[cell] >= 2) {
                edgeCell[at] = ownCell;
                ownCell++;
            }
            columns++;
        }

        private int lastOfGroup(int row, int column) {
            int last = row;
            while (last < rows - 1 && linked[last * WIDTH + column]) {
                last++;
            }
            return last;
        }

        /** The cell for the power of a row behind a column: that of its group's least row. */
        private int power(int row, int column) {
            int least = row;
            while (least > 0 && linked[(least - 1) * WIDTH + column]) {
                least--;
            }
            return powers + WIDTH * column + least;
        }

        private void codeGroup(int first, int last, int column) {
            int ways = 0;
            for (int row = first; row <= last; row++) {
                int cell = grid[row * WIDTH + column];
                if (tree.kind[cell] != Tree.GAP) {
                    codeWay(cell, row, column);
                    ways++;
                    if (ways > 1) {
                        code.emit(Code.TWO, Code.BITS_OR);
                    }
                }
            }
            if (ways == 0) {
                code.emit(Code.PUSH, 0);
            }
            code.emit(Code.STORE, power(first, column));
        }

        private void codeWay(int cell, int row, int column) {
            if (column == 0) {
                code.emit(Code.PUSH, 1);
            } else {
                code.emit(Code.LOAD, power(row, column - 1));
            }
            if (tree.kind[cell] != Tree.CONTACT) {
                return;
            }
            int seen = cellOf(tree.child[cell]);
            int kind = tree.value[cell];
            if (kind >= 2) {
                codeEdge(seen, kind == 2, edgeCell[row * WIDTH + column]);
                return;
            }
            code.emit(Code.LOAD, seen);
            if (kind == 1) {
                code.emit(Code.ONE, Code.IS_ZERO);
            }
            code.emit(Code.TWO, Code.BITS_AND);
        }

        /** The cell of a simple variable, or of an instance's output. */
        private int cellOf(int node) {
            int cell = plan.cell[tree.value[node]];
            return tree.kind[node] == Tree.OUTPUT ? cell + tree.value[tree.child[node]] : cell;
        }

        private void codeEdge(int seen, boolean rising, int own) {
            code.emit(Code.LOAD, rising ? seen : own);
            code.emit(Code.LOAD, rising ? own : seen);
            code.emit(Code.ONE, Code.IS_ZERO);
            code.emit(Code.TWO, Code.BITS_AND);
            code.emit(Code.TWO, Code.BITS_AND);
            code.emit(Code.LOAD, seen);
            code.emit(Code.STORE, own);
        }

        private void codeCoil(int coil, int row) {
            int kind = tree.value[coil];
            int cell = plan.cell[tree.value[tree.child[coil]]];
            if (kind >= 2) {
                code.emit(Code.LOAD, cell);
            }
            if (columns == 1) {
                code.emit(Code.PUSH, 1);
            } else {
                code.emit(Code.LOAD, power(row, columns - 2));
            }
            if (kind == 1 || kind == 3) {
                code.emit(Code.ONE, Code.IS_ZERO);
            }
            if (kind >= 2) {
                code.emit(Code.TWO, kind == 2 ? Code.BITS_OR : Code.BITS_AND);
            }
            code.emit(Code.STORE, cell);
        }
    }

    /** Proves of a unit that its stack has room and how many steps it takes at most. */
    private static final class Prover {
        private static final int MOST_ON_STACK = 64;
        private static final long MOST_STEPS = 1000000000L;
        /** Greater numbers of steps are not told apart: times a COUNT they still are a long. */
        private static final long MANY = 1L << 40;
        private static final long NO_WAY = -1;

        final int[] bounds;
        private final Code code;
        private final boolean[] reached;
        /**
         * The most steps from an instruction on: to the end of the loop's round (or of the unit, if
         * it is in no loop), out of the loop by an EXIT, and to the unit's end by a LEAVE.
         */
        private final long[] through;
        private final long[] out;
        private final long[] away;
        private final int[] backs;
        private int loops;

        Prover(Code code) {
            this.code = code;
            bounds = new int[MOST_UNITS];
            reached = new boolean[MOST_INSTRUCTIONS + 1];
            through = new long[MOST_INSTRUCTIONS + 1];
            out = new long[MOST_INSTRUCTIONS + 1];
            away = new long[MOST_INSTRUCTIONS + 1];
            backs = new int[Tree.DEEPEST];
        }

        int prove(int unit) {
            int start = code.start[unit];
            int behind = code.start[unit + 1];
            if (highest(start, behind) > MOST_ON_STACK) {
                return 51;
            }
            long bound = longest(start, behind);
            bounds[unit] = (int) Math.min(bound, MOST_STEPS + 1);
            return bound > MOST_STEPS ? 52 : 0;
        }

        /** How many numbers lie on the stack at most; jumps are made with none on it alone. */
        private int highest(int start, int behind) {
            for (int i = start; i <= behind; i++) {
                reached[i] = i == start;
            }
            int most = 0;
            int height = 0;
            for (int i = start; i < behind; i++) {
                int op = code.op[i];
                height += Code.RISE[op];
                if (reached[i]) {
                    most = Math.max(most, height);
                    if (op == Code.GO || op == Code.UNLESS || op == Code.NEXT) {
                        reached[code.a[i]] = true;
                    }
                    if (op != Code.GO && op != Code.LEAVE && op != Code.BACK) {
                        reached[i + 1] = true;
                    }
                }
            }
            return most;
        }

        private long longest(int start, int behind) {
            loops = 0;
            tell(behind, 0, NO_WAY, NO_WAY);
            for (int i = behind - 1; i >= start; i--) {
                switch (code.op[i]) {
                    case Code.LEAVE: tell(i, NO_WAY, NO_WAY, 1); break;
                    case Code.GO: proveGo(i); break;
                    case Code.UNLESS: proveUnless(i); break;
                    case Code.BACK: proveBack(i); break;
                    case Code.NEXT: proveNext(i); break;
                    case Code.ENTER: case Code.CALL: proveAfter(i, 1L + bounds[code.a[i]], i + 1); break;
                    default: proveAfter(i, 1, i + 1);
                }
            }
            return Math.max(through[start], away[start]);
        }

        private void tell(int i, long newThrough, long newOut, long newAway) {
            through[i] = newThrough;
            out[i] = newOut;
            away[i] = newAway;
        }

        private static long sum(long x, long y) {
            return x == NO_WAY || y == NO_WAY ? NO_WAY : Math.min(x + y, MANY);
        }

        private void proveAfter(int i, long steps, int next) {
            tell(i, sum(steps, through[next]), sum(steps, out[next]), sum(steps, away[next]));
        }

        private void proveGo(int i) {
            if (loops > 0 && code.a[i] > backs[loops - 1]) {
                tell(i, NO_WAY, 1, NO_WAY);
            } else {
                proveAfter(i, 1, code.a[i]);
            }
        }

        private void proveUnless(int i) {
            int there = code.a[i];
            long newThrough = sum(1, Math.max(through[i + 1], through[there]));
            long newOut = sum(1, Math.max(out[i + 1], out[there]));
            tell(i, newThrough, newOut, sum(1, Math.max(away[i + 1], away[there])));
        }

        private void proveBack(int i) {
            if (loops < backs.length) {
                backs[loops] = i;
                loops++;
            }
            tell(i, 1, NO_WAY, NO_WAY);
        }

        /** A loop whose rounds can't be gone through is left in the first one. */
        private void proveNext(int i) {
            loops--;
            int behind = code.a[i];
            int times = code.b[i - 1];
            if (times == 0) {
                proveAfter(i, 1, behind);
                return;
            }
            long round = sum(1, through[i + 1]);
            long before = round == NO_WAY ? 0 : Math.min((times - 1) * round, MANY);
            long last = sum(before, 1);
            long all = sum(sum(before, round), 1);
            long pass = Math.max(all, sum(last, out[i + 1]));
            long gone = Math.max(sum(last, away[i + 1]), sum(pass, away[behind]));
            tell(i, sum(pass, through[behind]), sum(pass, out[behind]), gone);
        }
    }

    /** The cells, the areas as they are seen from outside, and the runs of the code. */
    private static final class Machine {
        /** Each unit has at most 64 numbers on the stack when it begins another one. */
        private static final int STACK = 64 * (MOST_UNITS + 1);
        /** No scan takes more than 100,000 steps, and no unit ends more often than that. */
        private static final int MOST_TURNS = 1000000;

        /** Inputs as they were put, outputs as published and safe ones, each where its cell is. */
        final int[] given;
        final int[] published;
        final int[] safeOutputs;
        boolean loaded;
        boolean stopped;
        int bound;
        int steps;
        int scans;
        int scansAbove;
        int now;
        private final Code code;
        private final Plan plan;
        private final int[] cells;
        private final int[] stack;
        private int top;
        /** Of each unit that has begun another one: where it goes on, where it ends, its cells. */
        private final int[] frames;
        /** Where the cells of each unit's first instance are, once their constants are set. */
        private final int[] firstInstance;
        private int depth;
        private int at;
        private int behind;
        private int base;

        Machine(Code code, Plan plan) {
            this.code = code;
            this.plan = plan;
            given = new int[AREA_CELLS];
            published = new int[AREA_CELLS];
            safeOutputs = new int[AREA_CELLS];
            cells = new int[MOST_CELLS];
            stack = new int[STACK];
            frames = new int[3 * (MOST_UNITS + 1)];
            firstInstance = new int[MOST_UNITS];
        }

        void forget() {
            loaded = false;
            stopped = false;
            bound = 0;
            steps = 0;
            scans = 0;
            scansAbove = 0;
            now = 0;
        }

        void begin(int newBound) {
            loaded = true;
            bound = newBound;
            beginAnew();
        }

        void beginAnew() {
            stopped = false;
            Arrays.fill(cells, 0);
            Arrays.fill(firstInstance, NOTHING);
            for (int block = Plan.STANDARD; block < plan.blocks; block++) {
                if (plan.kind[block] != Tree.FUNCTION_BLOCK) {
                    setConstants(block, plan.place[block], 0);
                }
            }
            publish(safeOutputs);
        }

        private void setConstants(int block, int from, int level) {
            if (level > MOST_UNITS) {
                return;
            }
            for (int variable = plan.first[block]; variable < plan.behind[block]; variable++) {
                int instance = plan.instanceOf[variable];
                int cell = from + plan.cell[variable];
                if (instance >= Plan.STANDARD) {
                    beginInstance(instance, cell, level + 1);
                } else if (instance < 0) {
                    for (int i = 0; i < plan.length[variable]; i++) {
                        become(cell + i, plan.constant[variable]);
                    }
                }
            }
        }

        /**
         * Instances of a block begin alike, so all but the first one are copies of that: each block's
         * variables are gone through once. (Instances in instances may be more than any walk could
         * go through: those without cells have no limit.)
         */
        private void beginInstance(int block, int from, int level) {
            int unit = block - Plan.STANDARD;
            int size = plan.cells[block];
            if (unit < 0 || unit >= firstInstance.length || from < 0 || from + size > cells.length) {
                return;
            }
            if (firstInstance[unit] == NOTHING) {
                setConstants(block, from, level);
                firstInstance[unit] = from;
            } else {
                System.arraycopy(cells, firstInstance[unit], cells, from, size);
            }
        }

        private void publish(int[] from) {
            for (int i = AREA_START[OUTPUT_BITS]; i < AREA_START[OUTPUT_BITS + 1]; i++) {
                published[i] = from[i];
            }
            for (int i = AREA_START[OUTPUT_WORDS]; i < AREA_START[OUTPUT_WORDS + 1]; i++) {
                published[i] = from[i];
            }
        }

        private void takeInputs() {
            for (int i = AREA_START[INPUT_BITS]; i < AREA_START[INPUT_BITS + 1]; i++) {
                cells[i] = given[i];
            }
            for (int i = AREA_START[INPUT_WORDS]; i < AREA_START[INPUT_WORDS + 1]; i++) {
                cells[i] = given[i];
            }
        }

        int cellAt(int i) {
            return i >= 0 && i < cells.length ? cells[i] : 0;
        }

        private void become(int i, int value) {
            if (i >= 0 && i < cells.length) {
                cells[i] = value;
            }
        }

        /** A place as it is seen from outside. */
        int seen(int area, int i) {
            int cell = AREA_START[area] + i;
            if (area == MEMORY_BITS || area == MEMORY_WORDS) {
                return cells[cell];
            }
            return area == OUTPUT_BITS || area == OUTPUT_WORDS ? published[cell] : given[cell];
        }

        /** An input or a place of memory becomes a value from outside. */
        int change(int area, int i, int value) {
            int cell = AREA_START[area] + i;
            if (area == INPUT_BITS || area == INPUT_WORDS) {
                given[cell] = value;
            } else if (loaded) {
                cells[cell] = value;
            } else {
                return NONE;
            }
            return 0;
        }

        int scanBy(int ticks) {
            now += ticks;
            takeInputs();
            int fault = run(plan.program - Plan.STANDARD);
            scans++;
            scansAbove += steps > bound ? 1 : 0;
            stopped = fault != 0;
            publish(stopped ? safeOutputs : cells);
            return stopped ? fault : steps;
        }

        private int run(int unit) {
            steps = 0;
            top = 0;
            depth = 0;
            beginUnit(unit, 0);
            int fault = 0;
            for (int turn = 0; turn < MOST_TURNS && depth > 0 && fault == 0; turn++) {
                if (at >= behind) {
                    endUnit();
                } else {
                    int i = at;
                    at++;
                    steps++;
                    fault = code.op[i] < Code.GO ? compute(i) : move(i);
                }
            }
            return fault;
        }

        private void beginUnit(int unit, int newBase) {
            int frame = 3 * depth;
            if (frame + 2 < frames.length && unit >= 0 && unit < code.units) {
                frames[frame] = at;
                frames[frame + 1] = behind;
                frames[frame + 2] = base;
                depth++;
                at = code.start[unit];
                behind = code.start[unit + 1];
                base = newBase;
            }
        }

        private void endUnit() {
            depth--;
            at = frames[3 * depth];
            behind = frames[3 * depth + 1];
            base = frames[3 * depth + 2];
        }

        private void lay(int value) {
            if (top < stack.length) {
                stack[top] = value;
                top++;
            }
        }

        private int takeOff() {
            if (top == 0) {
                return 0;
            }
            top--;
            return stack[top];
        }

        /** An instruction on numbers and cells. */
        private int compute(int i) {
            int a = code.a[i];
            switch (code.op[i]) {
                case Code.PUSH: lay(a); break;
                case Code.LOAD: lay(cellAt(base + a)); break;
                case Code.STORE: become(base + a, takeOff()); break;
                case Code.TAKE: return element(i, false);
                case Code.PUT: return element(i, true);
                case Code.READ: lay(cellAt(plan.place[Plan.STANDARD + a] + code.b[i])); break;
                case Code.WRITE: become(plan.place[Plan.STANDARD + a] + code.b[i], takeOff()); break;
                case Code.TWO: return computeTwo(a);
                case Code.ONE: lay(Code.one(a, takeOff())); break;
                default:
                    int y = takeOff();
                    int x = takeOff();
                    lay(takeOff() != 0 ? y : x);
            }
            return 0;
        }

        private int element(int i, boolean put) {
            int value = put ? takeOff() : 0;
            long index = (long) takeOff() - code.b[i];
            if (index < 0 || index >= code.c[i]) {
                return INDEX;
            }
            int cell = base + code.a[i] + (int) index;
            if (put) {
                become(cell, value);
            } else {
                lay(cellAt(cell));
            }
            return 0;
        }

        private int computeTwo(int k) {
            int y = takeOff();
            int x = takeOff();
            if (Code.isByZero(k, y)) {
                return ZERO;
            }
            lay(Code.two(k, x, y));
            return 0;
        }

        /** An instruction that tells where to go on, or begins or ends something. */
        private int move(int i) {
            int a = code.a[i];
            switch (code.op[i]) {
                case Code.GO: case Code.BACK: at = a; break;
                case Code.UNLESS: at = takeOff() == 0 ? a : at; break;
                case Code.COUNT: become(base + a, code.b[i]); break;
                case Code.NEXT:
                    int left = cellAt(base + code.b[i]);
                    if (left == 0) {
                        at = a;
                    } else {
                        become(base + code.b[i], left - 1);
                    }
                    break;
                case Code.ENTER: beginUnit(a, base + code.b[i]); break;
                case Code.CALL: beginUnit(a, plan.place[Plan.STANDARD + a]); break;
                case Code.BLOCK: runStandard(a, base + code.b[i]); break;
                default: at = behind;
            }
            return 0;
        }

        private void runStandard(int kind, int cell) {
            boolean first = cellAt(cell) != 0;
            boolean second = cellAt(cell + 1) != 0;
            if (kind <= 2) {
                runTimer(kind, cell, first);
            } else if (kind <= 4) {
                runCounter(kind, cell, first, second);
            } else if (kind <= 6) {
                boolean before = cellAt(cell + 2) != 0;
                boolean edge = kind == 5 ? first && !before : !first && before;
                become(cell + 1, edge ? 1 : 0);
                become(cell + 2, first ? 1 : 0);
            } else {
                boolean held = cellAt(cell + 2) != 0;
                boolean set = kind == 7 ? first || !second && held : !second && (first || held);
                become(cell + 2, set ? 1 : 0);
            }
        }

        private void runTimer(int kind, int cell, boolean in) {
            boolean before = cellAt(cell + 4) != 0;
            long wanted = Math.max(0, cellAt(cell + 1));
            int gone = cellAt(cell + 3);
            int later = (int) Math.min(wanted, gone + ((long) now - cellAt(cell + 5)));
            boolean q = cellAt(cell + 2) != 0;
            if (kind == 0) {
                gone = in && before ? later : 0;
                q = in && gone >= wanted;
            } else if (kind == 1) {
                boolean goes = !in && !before && q;
                gone = goes ? later : in || before ? 0 : gone;
                q = in || (before ? wanted > 0 : goes && gone < wanted);
            } else {
                if (q) {
                    gone = later;
                    q = gone < wanted;
                }
                if (!q && (!in || !before)) {
                    gone = 0;
                    q = in && wanted > 0;
                }
            }
            become(cell + 2, q ? 1 : 0);
            become(cell + 3, gone);
            become(cell + 4, in ? 1 : 0);
            become(cell + 5, now);
        }

        private void runCounter(int kind, int cell, boolean counts, boolean sets) {
            boolean edge = counts && cellAt(cell + 5) == 0;
            int wanted = cellAt(cell + 2);
            int value = cellAt(cell + 4);
            boolean up = kind == 3;
            if (sets) {
                value = up ? 0 : wanted;
            } else if (edge && (up ? value < 32767 : value > -32768)) {
                value += up ? 1 : -1;
            }
            become(cell + 3, (up ? value >= wanted : value <= 0) ? 1 : 0);
            become(cell + 4, value);
            become(cell + 5, counts ? 1 : 0);
        }
    }

    /** Answers what comes on the serial line. */
    private static final class Line {
        /** Data begin behind address and function. */
        private static final int DATA = 2;

        final byte[] out;
        int outSize;
        int station;
        private final Machine machine;
        private byte[] request;
        private int dataSize;

        Line(Machine machine) {
            this.machine = machine;
            out = new byte[256];
            station = 1;
        }

        int answer(byte[] tape, int size) {
            outSize = 0;
            boolean whole = size >= 4 && size <= 256
                && checkSum(tape, size - 2) == (tape[size - 2] & 255) + 256 * (tape[size - 1] & 255);
            int address = tape[0] & 255;
            if (!machine.loaded || !whole || address != 0 && address != station) {
                return 0;
            }
            request = tape;
            dataSize = size - 4;
            int function = tape[1] & 255;
            int refused = refusal(function);
            if (refused == 0) {
                write(function);
            }
            if (address != 0) {
                send(address);
                if (refused == 0) {
                    reply(function);
                } else {
                    send(function | 128);
                    send(refused);
                }
                int sum = checkSum(out, outSize);
                send(sum);
                send(sum >> 8);
            }
            return outSize;
        }

        private static int checkSum(byte[] bytes, int size) {
            int sum = 65535;
            for (int i = 0; i < size && i < bytes.length; i++) {
                sum ^= bytes[i] & 255;
                for (int bit = 0; bit < 8; bit++) {
                    sum = (sum & 1) == 0 ? sum >> 1 : sum >> 1 ^ 40961;
                }
            }
            return sum;
        }

        private void send(int value) {
            if (outSize < out.length) {
                out[outSize] = (byte) value;
                outSize++;
            }
        }

        private int data(int i) {
            return i >= 0 && i < dataSize ? request[DATA + i] & 255 : 0;
        }

        private int number(int i) {
            return 256 * data(i) + data(i + 1);
        }

        private int refusal(int function) {
            if (function < 1 || function > 6 && function != 15 && function != 16) {
                return 1;
            }
            boolean many = function >= 15;
            if (many ? dataSize < 6 || dataSize != 5 + data(4) : dataSize != 4) {
                return 3;
            }
            int n = number(2);
            if (!isNumberFor(function, n)) {
                return 3;
            }
            int places = function == 5 || function == 6 ? 1 : n;
            return number(0) + places > tableSize(function) ? 2 : 0;
        }

        private boolean isNumberFor(int function, int n) {
            switch (function) {
                case 1: case 2: return n >= 1 && n <= 2000;
                case 3: case 4: return n >= 1 && n <= 125;
                case 5: return n == 0 || n == 65280;
                case 15: return n >= 1 && n <= 1968 && data(4) == (n + 7) / 8;
                case 16: return n >= 1 && n <= 123 && data(4) == 2 * n;
                default: return true;
            }
        }

        private static int tableSize(int function) {
            switch (function) {
                case 2: return 512;
                case 4: return 128;
                case 1: case 5: case 15: return 256;
                default: return 64;
            }
        }

        private void write(int function) {
            int a = number(0);
            int n = number(2);
            if (function == 5) {
                machine.change(MEMORY_BITS, a, n == 0 ? 0 : 1);
            } else if (function == 6) {
                machine.change(MEMORY_WORDS, a, (short) n);
            } else if (function == 15) {
                for (int i = 0; i < n; i++) {
                    machine.change(MEMORY_BITS, a + i, data(5 + i / 8) >> i % 8 & 1);
                }
            } else if (function == 16) {
                for (int i = 0; i < n; i++) {
                    machine.change(MEMORY_WORDS, a + i, (short) number(5 + 2 * i));
                }
            }
        }

        private void reply(int function) {
            int a = number(0);
            int n = number(2);
            send(function);
            if (function <= 2) {
                send((n + 7) / 8);
                for (int i = 0; i < n; i += 8) {
                    send(bitsFrom(function, a + i, Math.min(8, n - i)));
                }
            } else if (function <= 4) {
                send(2 * n);
                for (int i = 0; i < n; i++) {
                    int word = function == 3 ? machine.seen(MEMORY_WORDS, a + i) : meter(a + i);
                    send(word >> 8);
                    send(word);
                }
            } else {
                for (int i = 0; i < 4; i++) {
                    send(data(i));
                }
            }
        }

        private int bitsFrom(int function, int from, int bits) {
            int sum = 0;
            for (int i = 0; i < bits; i++) {
                int bit = function == 1 ? machine.seen(MEMORY_BITS, from + i) : lamp(from + i);
                sum |= bit << i;
            }
            return sum;
        }

        private int lamp(int i) {
            return i < 256 ? machine.seen(INPUT_BITS, i) : machine.seen(OUTPUT_BITS, i - 256);
        }

        private int meter(int i) {
            return i < 64 ? machine.seen(INPUT_WORDS, i) : machine.seen(OUTPUT_WORDS, i - 64);
        }
    }
}
