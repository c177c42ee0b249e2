import java.util.ArrayList;
import java.util.List;
import java.util.Random;

/** Random texts, most of them good, some with slips of types, names and tokens. */
final class ModelTexts {
    private static final int BOOL = 0, INT = 1, DINT = 2;
    private static final String[] TYPES = {"BOOL", "INT", "DINT"};
    private static final int[] EDGES = {0, 1, 2, 3, 5, 7, 8, 15, 16, 17, 31, 32, 33, 100, 255, 256, 1000, 32766, 32767, 32768, 40000, 65535, 65536, 1000000, 2147483646, 2147483647};
    private static final String[] ANY = ("PROGRAM END_PROGRAM FUNCTION END_FUNCTION FUNCTION_BLOCK END_FUNCTION_BLOCK VAR VAR_INPUT VAR_OUTPUT END_VAR AT BOOL INT DINT ARRAY OF IF THEN ELSIF ELSE END_IF "
        + "CASE END_CASE FOR TO BY DO END_FOR EXIT RETURN OR XOR AND MOD NOT TRUE FALSE LADDER END_LADDER RUNG END_RUNG := .. <= >= <> ( ) [ ] , ; : . + - * / = < > & | "
        + "x0 x1 x2 v0 v1 v2 q0 TON CTU ABS SEL TO_INT p f0 b0 0 1 32768 16#FF 2#101 T#2S %IX0 %QX1 %MW3 %QW2 # ! $ ~ 99999999999 3x 16# %IX256 %Z1 (* *)").split(" ");

    /** What others see of a block: its inputs and outputs. */
    private static final class Shape {
        final String name;
        int type;
        final List<String> inputs = new ArrayList<>();
        final List<Integer> inputTypes = new ArrayList<>();
        final List<String> outputs = new ArrayList<>();
        final List<Integer> outputTypes = new ArrayList<>();

        Shape(String name) {
            this.name = name;
        }
    }

    /** A variable of the block that is being written; a fixed one may not be assigned. */
    private static final class Item {
        final String name;
        final int type;
        final int low;
        final int elements;
        final Shape instance;
        final boolean fixed;

        Item(String name, int type, int low, int elements, Shape instance, boolean fixed) {
            this.name = name;
            this.type = type;
            this.low = low;
            this.elements = elements;
            this.instance = instance;
            this.fixed = fixed;
        }
    }

    private final Random random;
    private final List<String> tokens = new ArrayList<>();
    private final List<Shape> functions = new ArrayList<>();
    private final List<Shape> kinds = new ArrayList<>();
    private List<Item> items = new ArrayList<>();
    private final List<String> loops = new ArrayList<>();
    private final List<String> paths = new ArrayList<>();
    private final double slip;
    private int names;
    private int room;

    ModelTexts(Random random) {
        this.random = random;
        slip = random.nextInt(3) == 0 ? 0.02 : 0;
        room = 20 + random.nextInt(120);
        standard("TON", "IN PT", "02", "Q ET", "02");
        standard("TOF", "IN PT", "02", "Q ET", "02");
        standard("TP", "IN PT", "02", "Q ET", "02");
        standard("CTU", "CU R PV", "001", "Q CV", "01");
        standard("CTD", "CD LD PV", "001", "Q CV", "01");
        standard("R_TRIG", "CLK", "0", "Q", "0");
        standard("F_TRIG", "CLK", "0", "Q", "0");
        standard("SR", "S1 R", "00", "Q1", "0");
        standard("RS", "S R1", "00", "Q1", "0");
    }

    private void standard(String name, String inputs, String types, String outputs, String outputTypes) {
        Shape shape = new Shape(name);
        for (String input : inputs.split(" ")) {
            shape.inputs.add(input);
            shape.inputTypes.add(types.charAt(shape.inputTypes.size()) - '0');
        }
        for (String output : outputs.split(" ")) {
            shape.outputs.add(output);
            shape.outputTypes.add(outputTypes.charAt(shape.outputTypes.size()) - '0');
        }
        kinds.add(shape);
    }

    /** Paths that may be watched in the last text. */
    List<String> paths() {
        return paths;
    }

    private boolean chance(double p) {
        return random.nextDouble() < p;
    }

    private boolean slips() {
        return slip > 0 && chance(slip);
    }

    private int below(int n) {
        return random.nextInt(n);
    }

    private void say(String... more) {
        for (String one : more) {
            tokens.add(one);
        }
    }

    private String fresh(String letter) {
        names++;
        return slips() ? letter + below(3) : letter + names;
    }

    String text() {
        int others = below(4);
        for (int i = 0; i < others; i++) {
            if (chance(0.5)) {
                function();
            } else {
                block(2);
            }
        }
        block(3);
        mutate();
        return joined();
    }

    private void function() {
        Shape shape = new Shape(fresh("f"));
        shape.type = below(3);
        say("FUNCTION", shape.name, ":", TYPES[shape.type]);
        items = new ArrayList<>();
        items.add(new Item(shape.name, shape.type, 0, 0, null, false));
        for (int i = below(3); i > 0; i--) {
            boolean input = chance(0.6);
            say(input ? "VAR_INPUT" : slips() ? "VAR_OUTPUT" : "VAR");
            for (int k = below(4); k > 0; k--) {
                simple(input ? shape : null, input ? 1 : 0);
            }
            say("END_VAR");
        }
        body();
        say("END_FUNCTION");
        functions.add(shape);
    }

    private void block(int kind) {
        Shape shape = new Shape(fresh(kind == 2 ? "b" : "p"));
        say(kind == 2 ? "FUNCTION_BLOCK" : "PROGRAM", shape.name);
        items = new ArrayList<>();
        for (int i = 1 + below(3); i > 0; i--) {
            int section = kind == 3 ? slips() ? 1 : 0 : below(3);
            say(new String[] {"VAR", "VAR_INPUT", "VAR_OUTPUT"}[section]);
            for (int k = 1 + below(5); k > 0; k--) {
                if (section == 0 || slips()) {
                    declaration(kind);
                } else {
                    simple(shape, section);
                }
            }
            say("END_VAR");
        }
        if (kind == 3) {
            for (Item item : items) {
                pathsOf(item);
            }
        }
        body();
        say(kind == 2 ? "END_FUNCTION_BLOCK" : "END_PROGRAM");
        if (kind == 2) {
            kinds.add(shape);
        }
    }

    private void pathsOf(Item item) {
        if (item.instance != null) {
            for (String input : item.instance.inputs) {
                paths.add(item.name + "." + input);
            }
            for (String output : item.instance.outputs) {
                paths.add(item.name + "." + output);
            }
        } else if (item.elements > 0) {
            paths.add(item.name + "[" + (item.low + below(item.elements)) + "]");
            paths.add(item.name + "[" + (item.low + item.elements) + "]");
        } else {
            paths.add(item.name);
        }
    }

    private void simple(Shape shape, int section) {
        int type = below(3);
        String name = fresh("x");
        say(name);
        if (chance(0.2)) {
            String second = fresh("x");
            say(",", second);
            items.add(new Item(second, type, 0, 0, null, section == 1));
            add(shape, section, second, type);
        }
        say(":", TYPES[type]);
        initial(type);
        say(";");
        items.add(new Item(name, type, 0, 0, null, section == 1));
        add(shape, section, name, type);
    }

    private static void add(Shape shape, int section, String name, int type) {
        if (shape != null && section == 1) {
            shape.inputs.add(name);
            shape.inputTypes.add(type);
        } else if (shape != null && section == 2) {
            shape.outputs.add(name);
            shape.outputTypes.add(type);
        }
    }

    private void initial(int type) {
        if (chance(0.4)) {
            say(":=");
            constant(slips() ? below(3) : type);
        }
    }

    private void constant(int type) {
        if (type == BOOL) {
            say(chance(0.5) ? "TRUE" : "FALSE");
            return;
        }
        if (chance(0.3)) {
            say("-");
        }
        number(type);
    }

    private void number(int type) {
        int value = chance(0.5) ? below(20) : EDGES[below(EDGES.length)];
        if (type == INT && value > 32767 && !slips()) {
            value = below(300);
        }
        switch (below(8)) {
            case 0: say("16#" + Integer.toHexString(value)); break;
            case 1: say("2#" + Integer.toBinaryString(value)); break;
            case 2: say(type == DINT ? "T#" + below(30) + new String[] {"ms", "S", "M", "h"}[below(4)] : String.valueOf(value)); break;
            default: say(String.valueOf(value));
        }
    }

    private void declaration(int kind) {
        int form = below(10);
        if (form < 4) {
            simple(null, 0);
        } else if (form < 6 && kind == 3) {
            placed();
        } else if (form < 8) {
            String name = fresh("r");
            int type = below(3);
            int low = below(7) - 3;
            int elements = slips() ? 0 : 1 + below(5);
            say(name, ":", "ARRAY", "[");
            signed(low);
            say("..");
            signed(low + elements - 1);
            say("]", "OF", TYPES[type]);
            initial(type);
            say(";");
            items.add(new Item(name, type, low, elements, null, false));
        } else {
            Shape meant = kinds.get(chance(0.5) ? kinds.size() - 1 - below(Math.min(3, kinds.size())) : below(kinds.size()));
            String name = fresh("i");
            say(name, ":", meant.name, ";");
            items.add(new Item(name, 0, 0, 0, meant, false));
        }
    }

    private void signed(int value) {
        if (value < 0) {
            say("-");
        }
        say(String.valueOf(Math.abs(value)));
    }

    private void placed() {
        String name = fresh("x");
        int area = below(6);
        int type = area < 3 ? BOOL : INT;
        say(name, "AT", "%" + new String[] {"IX", "QX", "MX", "IW", "QW", "MW"}[area] + below(12), ":", TYPES[slips() ? below(3) : type]);
        if (area % 3 != 0 || slips()) {
            initial(type);
        }
        say(";");
        items.add(new Item(name, type, 0, 0, null, area % 3 == 0));
    }

    private void body() {
        if (chance(0.2)) {
            ladder();
        } else {
            statements(3);
        }
    }

    private Item pick(int form, int type, boolean assigned) {
        List<Item> fitting = new ArrayList<>();
        for (Item item : items) {
            int itsForm = item.instance != null ? 2 : item.elements > 0 ? 1 : 0;
            boolean typed = form == 2 || item.type == type || slips();
            boolean free = !assigned || !item.fixed && !loops.contains(item.name) || slips();
            if ((itsForm == form || slips()) && typed && free) {
                fitting.add(item);
            }
        }
        return fitting.isEmpty() ? null : fitting.get(below(fitting.size()));
    }

    private void statements(int depth) {
        for (int i = below(5); i > 0 && room > 0; i--) {
            room--;
            statement(depth);
            if (chance(0.05)) {
                say(";");
            }
        }
    }

    private void statement(int depth) {
        int kind = below(depth == 0 ? 5 : 10);
        if (kind <= 2) {
            int type = below(3);
            Item item = pick(chance(0.75) ? 0 : 1, type, true);
            if (item != null) {
                say(item.name);
                if (item.elements > 0) {
                    say("[");
                    index(item, 1);
                    say("]");
                }
                say(":=");
                expression(type == DINT && chance(0.3) ? INT : type, 3);
                say(";");
            }
        } else if (kind == 3) {
            invocation();
        } else if (kind == 4) {
            if (chance(0.3)) {
                say(!loops.isEmpty() && chance(0.8) || slips() ? "EXIT" : "RETURN", ";");
            }
        } else if (kind <= 6) {
            ifStatement(depth);
        } else if (kind == 7) {
            caseStatement(depth);
        } else {
            loop(depth);
        }
    }

    private void index(Item item, int depth) {
        if (chance(0.7)) {
            int value = item.low + below(item.elements + (chance(0.1) ? 1 : 0));
            signed(value);
        } else {
            expression(chance(0.7) ? INT : DINT, depth);
        }
    }

    private void invocation() {
        Item item = pick(2, 0, false);
        if (item == null || item.instance == null) {
            return;
        }
        say(item.name, "(");
        boolean first = true;
        for (int i = 0; i < item.instance.inputs.size(); i++) {
            if (chance(0.8)) {
                if (!first) {
                    say(",");
                }
                first = false;
                int type = item.instance.inputTypes.get(i);
                say(slips() ? "x1" : item.instance.inputs.get(i), ":=");
                expression(type, 2);
            }
        }
        say(")", ";");
    }

    private void ifStatement(int depth) {
        say("IF");
        expression(BOOL, 2);
        say("THEN");
        statements(depth - 1);
        for (int i = below(3) - 1; i > 0; i--) {
            say("ELSIF");
            expression(BOOL, 2);
            say("THEN");
            statements(depth - 1);
        }
        if (chance(0.4)) {
            say("ELSE");
            statements(depth - 1);
        }
        say("END_IF", ";");
    }

    private void caseStatement(int depth) {
        say("CASE");
        expression(chance(0.6) ? INT : DINT, 2);
        say("OF");
        for (int i = below(4); i > 0; i--) {
            for (int k = below(3); k >= 0; k--) {
                int low = below(20) - 5;
                signed(low);
                if (chance(0.3)) {
                    say("..");
                    signed(low + below(9) - (slips() ? 9 : 0));
                }
                say(k > 0 ? "," : ":");
            }
            statements(depth - 1);
        }
        if (chance(0.4)) {
            say("ELSE");
            statements(depth - 1);
        }
        say("END_CASE", ";");
    }

    private void loop(int depth) {
        Item item = pick(0, chance(0.6) ? INT : DINT, true);
        if (item == null) {
            return;
        }
        say("FOR", item.name, ":=");
        int from = below(12) - 4;
        int by = chance(0.5) ? 1 : below(7) - 3;
        signed(from);
        say("TO");
        signed(from + (chance(0.8) ? by * below(5) : below(9) - 4));
        if (by != 1 || chance(0.2)) {
            say("BY");
            signed(by == 0 && !slips() ? 2 : by);
        }
        say("DO");
        loops.add(item.name);
        statements(depth - 1);
        loops.remove(loops.size() - 1);
        say("END_FOR", ";");
    }

    private void operand(int type, int depth) {
        boolean bare = depth == 0 || chance(0.15);
        if (!bare) {
            say("(");
        }
        expression(type, depth);
        if (!bare) {
            say(")");
        }
    }

    private void expression(int wanted, int depth) {
        int type = slips() ? below(3) : wanted;
        if (depth == 0 || chance(0.25)) {
            leaf(type);
            return;
        }
        int kind = below(10);
        if (kind <= 4) {
            two(type, depth - 1);
        } else if (kind == 5) {
            say(type == BOOL || chance(0.5) ? "NOT" : "-");
            operand(type, depth - 1);
        } else if (kind <= 7) {
            standardCall(type, depth - 1);
        } else if (kind == 8) {
            ownCall(type, depth - 1);
        } else {
            say("(");
            expression(type, depth - 1);
            say(")");
        }
    }

    private int narrow(int type) {
        return type == DINT && chance(0.4) ? INT : type;
    }

    private void two(int type, int depth) {
        if (type == BOOL && chance(0.6)) {
            int other = chance(0.8) ? 1 + below(2) : BOOL;
            operand(other, depth);
            say(other == BOOL ? new String[] {"=", "<>"}[below(2)] : new String[] {"=", "<>", "<", ">", "<=", ">="}[below(6)]);
            operand(other == BOOL ? BOOL : 1 + below(2), depth);
            return;
        }
        boolean left = chance(0.5);
        operand(left ? type : narrow(type), depth);
        String[] signs = type == BOOL || chance(0.2) ? new String[] {"AND", "OR", "XOR", "&"} : new String[] {"+", "-", "*", "/", "MOD"};
        say(signs[below(signs.length)]);
        operand(left ? narrow(type) : type, depth);
    }

    private void arguments(int depth, int... types) {
        say("(");
        for (int i = 0; i < types.length; i++) {
            if (i > 0) {
                say(",");
            }
            expression(types[i], depth);
        }
        if (slips()) {
            say(",", "1");
        }
        say(")");
    }

    private void standardCall(int type, int depth) {
        if (type == BOOL) {
            boolean choose = chance(0.5);
            say(choose ? "SEL" : "TO_BOOL");
            if (choose) {
                arguments(depth, BOOL, BOOL, BOOL);
            } else {
                arguments(depth, 1 + below(2));
            }
            return;
        }
        switch (below(7)) {
            case 0: say("ABS"); arguments(depth, type); break;
            case 1: say(chance(0.5) ? "MIN" : "MAX"); arguments(depth, type, narrow(type)); break;
            case 2: say("LIMIT"); arguments(depth, narrow(type), type, narrow(type)); break;
            case 3: say("SEL"); arguments(depth, BOOL, type, narrow(type)); break;
            case 4: say("SHL"); arguments(depth, type, 1 + below(2)); break;
            case 5: say("SHR"); arguments(depth, type, 1 + below(2)); break;
            default: say(type == INT ? "TO_INT" : "TO_DINT"); arguments(depth, below(3));
        }
    }

    private void ownCall(int type, int depth) {
        for (Shape function : functions) {
            if (function.type == type && chance(0.5)) {
                say(function.name);
                arguments(depth, function.inputTypes.stream().mapToInt(t -> narrow(t)).toArray());
                return;
            }
        }
        leaf(type);
    }

    private void leaf(int type) {
        int kind = below(6);
        Item item = kind <= 2 ? pick(0, type, false) : kind == 3 ? pick(1, type, false) : kind == 4 ? pick(2, 0, false) : null;
        if (item != null && item.instance != null) {
            for (int i = 0; i < item.instance.outputs.size(); i++) {
                if (item.instance.outputTypes.get(i) == type) {
                    say(item.name, ".", item.instance.outputs.get(i));
                    return;
                }
            }
            item = null;
        }
        if (item != null) {
            say(item.name);
            if (item.elements > 0) {
                say("[");
                index(item, 1);
                say("]");
            }
        } else if (type == BOOL) {
            say(chance(0.5) ? "TRUE" : "FALSE");
        } else {
            number(type);
        }
    }

    private void ladder() {
        say("LADDER");
        for (int i = below(4); i > 0; i--) {
            say("RUNG");
            int rows = 1 + below(4);
            int columns = 1 + below(5);
            for (int r = 0; r < rows; r++) {
                for (int c = 0; c < columns - (slips() ? 1 : 0); c++) {
                    if (c > 0 && chance(0.25) && (r < rows - 1 || slips())) {
                        say("|");
                    }
                    cell(c == columns - 1 || slips());
                }
                say(";");
            }
            say("END_RUNG");
        }
        say("END_LADDER");
    }

    private void cell(boolean last) {
        Item coil = last && chance(0.7) ? pick(0, BOOL, true) : null;
        if (coil != null) {
            say("(");
            if (chance(0.5)) {
                say(new String[] {"/", "+", "-"}[below(3)]);
            }
            say(coil.name, ")");
            return;
        }
        Item seen = chance(0.7) ? pick(chance(0.8) ? 0 : 2, BOOL, false) : null;
        if (seen == null || seen.instance != null && seen.instance.outputs.isEmpty()) {
            say(chance(0.6) ? "-" : "*");
            return;
        }
        if (chance(0.6)) {
            say(new String[] {"/", ">", "<"}[below(3)]);
        }
        say(seen.name);
        if (seen.instance != null) {
            say(".", seen.instance.outputs.get(0));
        }
    }

    /** Some tokens are changed to others of the same kind, or left out, doubled, changed or put in. */
    private void mutate() {
        if (chance(0.4)) {
            for (int i = 1 + below(2); i > 0; i--) {
                exchange(below(tokens.size()));
            }
        } else if (chance(0.2)) {
            for (int i = 1 + below(2); i > 0; i--) {
                change(below(tokens.size()));
            }
        }
    }

    private void change(int at) {
        switch (below(5)) {
            case 0: tokens.remove(at); break;
            case 1: tokens.add(at, tokens.get(at)); break;
            case 2: tokens.set(at, tokens.get(below(tokens.size()))); break;
            case 3: tokens.add(at, ANY[below(ANY.length)]); break;
            default: tokens.set(at, ANY[below(ANY.length)]);
        }
    }

    /** The grammar does not tell tokens of one of these rows apart, but rules do. */
    private static final String[][] ALIKE = {{"BOOL", "INT", "DINT"}, {"VAR", "VAR_INPUT", "VAR_OUTPUT"}, {"EXIT", "RETURN"},
        {"OR", "XOR", "AND", "&", "=", "<>", "<=", ">=", "+", "MOD"}, {"TRUE", "FALSE", "0", "1"}, {"TON", "CTU", "SR", "f1", "f2", "b1", "b2", "ABS", "p1"}};

    private void exchange(int from) {
        for (int at = from; at < tokens.size(); at++) {
            String token = tokens.get(at);
            for (String[] row : ALIKE) {
                if (java.util.Arrays.asList(row).contains(token) && chance(0.5)) {
                    tokens.set(at, row[below(row.length)]);
                    return;
                }
            }
            boolean name = Character.isLowerCase(token.charAt(0)) || token.startsWith("_");
            boolean number = token.matches("[0-9]+");
            int other = below(tokens.size());
            if (name && Character.isLowerCase(tokens.get(other).charAt(0)) || number && tokens.get(other).matches("[0-9]+")) {
                tokens.set(at, tokens.get(other));
                return;
            }
            if (number && chance(0.2)) {
                tokens.set(at, String.valueOf(EDGES[below(EDGES.length)]));
                return;
            }
        }
    }

    private static boolean isPart(char c) {
        return Character.isLetterOrDigit(c) || c == '_' || c == '#' || c == '%';
    }

    private String joined() {
        StringBuilder all = new StringBuilder();
        boolean plain = chance(0.5);
        for (String token : tokens) {
            boolean needed = all.length() > 0 && (isPart(all.charAt(all.length() - 1)) && isPart(token.charAt(0)) || "(:.<>*".indexOf(all.charAt(all.length() - 1)) >= 0 && !isPart(token.charAt(0)));
            if (needed || plain || chance(0.1)) {
                all.append(chance(0.02) ? "(* x *)" : chance(0.1) ? "\n" : " ");
            }
            all.append(chance(0.1) ? token.toLowerCase() : token);
        }
        return all.toString();
    }
}
