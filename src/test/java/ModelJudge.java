import java.math.BigInteger;
import java.util.ArrayList;
import java.util.HashMap;
import java.util.HashSet;
import java.util.LinkedHashMap;
import java.util.List;
import java.util.Map;
import java.util.Set;

/** The model's RULES and CELLS, written once more from the document's words. */
final class ModelJudge {
    static final int BOOL = 0, INT = 1, DINT = 2;
    static final List<String> FUNCTIONS = List.of("ABS", "MIN", "MAX", "LIMIT", "SEL", "SHL", "SHR", "TO_INT", "TO_DINT", "TO_BOOL");
    static final List<String> STANDARD = List.of("TON", "TOF", "TP", "CTU", "CTD", "R_TRIG", "F_TRIG", "SR", "RS");

    static final class Variable {
        final String name;
        /** 0 VAR, 1 VAR_INPUT, 2 VAR_OUTPUT, 3 a FUNCTION's own name. */
        final int section;
        int type = BOOL;
        int cell;
        int constant = 0;
        /** Of an array: the first bound, and how many elements. */
        boolean array = false;
        int low = 0;
        int elements = 1;
        Block instance = null;
        int place = -1;

        Variable(String name, int section) {
            this.name = name;
            this.section = section;
        }

        boolean isSimple() {
            return !array && instance == null;
        }
    }

    static final class Block {
        /** 0 a standard one, 1 FUNCTION, 2 FUNCTION_BLOCK, 3 PROGRAM. */
        final int kind;
        final String name;
        final int number;
        ModelReader.Node node;
        int type;
        final Map<String, Variable> variables = new LinkedHashMap<>();
        int variableCells = 0;
        int cells = 0;
        int place = 0;
        /** Own cells of 16, 19 and of 25 of value 2 and 3. */
        final Map<ModelReader.Node, Integer> own = new HashMap<>();

        Block(int kind, String name, int number) {
            this.kind = kind;
            this.name = name;
            this.number = number;
        }

        List<Variable> inputs() {
            List<Variable> all = new ArrayList<>();
            for (Variable variable : variables.values()) {
                if (variable.section == 1) {
                    all.add(variable);
                }
            }
            return all;
        }
    }

    final Map<String, Block> standard = new LinkedHashMap<>();
    final List<Block> blocks = new ArrayList<>();
    private final Map<String, Block> before = new HashMap<>();
    private final Set<Integer> places = new HashSet<>();
    private final List<ModelReader.Node> parents = new ArrayList<>();
    private Block block;
    int allCells;

    ModelJudge() {
        standardBlock("TON", 6, "IN1B0 PT1D1 Q2B2 ET2D3");
        standardBlock("TOF", 6, "IN1B0 PT1D1 Q2B2 ET2D3");
        standardBlock("TP", 6, "IN1B0 PT1D1 Q2B2 ET2D3");
        standardBlock("CTU", 6, "CU1B0 R1B1 PV1I2 Q2B3 CV2I4");
        standardBlock("CTD", 6, "CD1B0 LD1B1 PV1I2 Q2B3 CV2I4");
        standardBlock("R_TRIG", 3, "CLK1B0 Q2B1");
        standardBlock("F_TRIG", 3, "CLK1B0 Q2B1");
        standardBlock("SR", 3, "S11B0 R1B1 Q12B2");
        standardBlock("RS", 3, "S1B0 R11B1 Q12B2");
    }

    /** Each input and output: its name, 1 or 2, B I or D, and its cell. */
    private void standardBlock(String name, int cells, String all) {
        Block made = new Block(0, name, STANDARD.indexOf(name));
        made.cells = cells;
        for (String one : all.split(" ")) {
            int length = one.length();
            Variable variable = new Variable(one.substring(0, length - 3), one.charAt(length - 3) - '0');
            variable.type = "BID".indexOf(one.charAt(length - 2));
            variable.cell = one.charAt(length - 1) - '0';
            made.variables.put(variable.name, variable);
        }
        standard.put(name, made);
    }

    private static void rule(boolean broken, int number, ModelReader.Node node) {
        if (broken) {
            throw new ModelReader.Fault(number, node.place);
        }
    }

    private boolean isStandard(String name) {
        return standard.containsKey(name) || FUNCTIONS.contains(name);
    }

    private ModelReader.Node parent(int up) {
        return parents.size() > up ? parents.get(parents.size() - 1 - up) : null;
    }

    void judge(ModelReader.Node node) {
        if (node.kind >= 1 && node.kind <= 3) {
            begin(node);
        }
        parents.add(node);
        for (ModelReader.Node child : node.children) {
            judge(child);
        }
        parents.remove(parents.size() - 1);
        behind(node);
    }

    private void begin(ModelReader.Node node) {
        boolean programBefore = !blocks.isEmpty() && blocks.get(blocks.size() - 1).kind == 3;
        rule(programBefore, 10, node);
        rule(isStandard(node.name) || before.containsKey(node.name), 11, node);
        block = new Block(node.kind, node.name, blocks.size());
        block.node = node;
        if (node.kind == 1) {
            block.type = node.child(0).value;
            Variable own = new Variable(node.name, 3);
            own.type = block.type;
            block.variables.put(node.name, own);
            block.variableCells = 1;
        }
        if (node.kind == 3) {
            block.variableCells = 960;
        }
    }

    private void behind(ModelReader.Node node) {
        switch (node.kind) {
            case 0: wholeText(node); break;
            case 1: case 2: case 3: wholeBlock(node); break;
            case 4: rule(block.kind == 3 && node.value != 0 || block.kind == 1 && node.value == 2, 13, node); break;
            case 5: declaration(node); break;
            case 6: name(node); break;
            case 7: place(node); break;
            case 9: array(node); break;
            case 10: blockType(node); break;
            case 12: assignment(node); break;
            case 13: rulesOfName(node, "instance"); break;
            case 14: parameter(node); break;
            case 15: ifRule(node); break;
            case 16: rule(node.child(0).type == BOOL, 34, node); break;
            case 18: range(node); break;
            case 19: loop(node); break;
            case 20: rule(parents.stream().noneMatch(p -> p.kind == 19), 37, node); break;
            case 23: rung(node); break;
            case 25: rule(node.child(0).type != BOOL, 41, node); break;
            case 28: coil(node); break;
            case 29: link(node); break;
            case 30: number(node); break;
            case 31: node.type = BOOL; node.constant = node.value; break;
            case 32: element(node); break;
            case 33: output(node); break;
            case 34: call(node); break;
            case 35: two(node); break;
            case 36: one(node); break;
            default:
        }
    }

    private void wholeText(ModelReader.Node node) {
        rule(blocks.isEmpty() || blocks.get(blocks.size() - 1).kind != 3, 10, node);
        Block program = blocks.get(blocks.size() - 1);
        allCells = program.cells;
        for (Block one : blocks) {
            if (one.kind == 1) {
                one.place = allCells;
                allCells += one.cells;
            }
        }
        rule(allCells > 8192, 42, node);
    }

    private void wholeBlock(ModelReader.Node node) {
        int[] next = {block.variableCells};
        ownCells(node, false, next);
        ownCells(node, true, next);
        block.cells = next[0] + (node.last().kind == 22 ? 156 : 0);
        before.put(node.name, block);
        blocks.add(block);
        rule(node.kind == 1 && block.inputs().size() > 8, 44, node);
    }

    private void ownCells(ModelReader.Node node, boolean contacts, int[] next) {
        boolean has = contacts ? node.kind == 25 && node.value >= 2 : node.kind == 16 || node.kind == 19;
        if (has) {
            block.own.put(node, next[0]);
            next[0]++;
        }
        for (ModelReader.Node child : node.children) {
            ownCells(child, contacts, next);
        }
    }

    private void name(ModelReader.Node node) {
        int in = parent(0).kind;
        if (in == 33) {
            return;
        }
        if (in == 5) {
            boolean known = block.variables.containsKey(node.name) || block.name.equals(node.name) || before.containsKey(node.name) || isStandard(node.name);
            rule(known, 12, node);
            block.variables.put(node.name, new Variable(node.name, parent(1).value));
            return;
        }
        node.type = rulesOfName(node, "simple").type;
    }

    private Variable rulesOfName(ModelReader.Node node, String form) {
        Variable variable = block.variables.get(node.name);
        rule(variable == null, 20, node);
        boolean has = form.equals("simple") ? variable.isSimple() : form.equals("array") ? variable.array : variable.instance != null;
        rule(!has, 21, node);
        node.meant = variable;
        return variable;
    }

    private void place(ModelReader.Node node) {
        rule(block.kind != 3 || parent(0).children.stream().filter(c -> c.kind == 6).count() > 1 || places.contains(node.value), 14, node);
        places.add(node.value);
    }

    private void array(ModelReader.Node node) {
        ModelReader.Node low = node.child(0);
        ModelReader.Node high = node.child(1);
        boolean truth = low.kind == 31 || high.kind == 31;
        rule(block.kind == 1 || truth || low.value > high.value || (long) high.value - low.value + 1 > 256, 16, node);
    }

    private void blockType(ModelReader.Node node) {
        Block meant = standard.get(node.name);
        if (meant == null && before.containsKey(node.name) && before.get(node.name).kind == 2) {
            meant = before.get(node.name);
        }
        rule(meant == null || block.kind == 1, 17, node);
        node.meant = meant;
    }

    private void declaration(ModelReader.Node node) {
        ModelReader.Node place = null;
        ModelReader.Node type = null;
        ModelReader.Node constant = null;
        for (ModelReader.Node child : node.children) {
            place = child.kind == 7 ? child : place;
            type = child.kind >= 8 && child.kind <= 10 ? child : type;
            constant = child.kind >= 30 ? child : constant;
        }
        rule(parent(0).value != 0 && type.kind != 8, 43, node);
        if (place != null) {
            int due = place.value / 256 < 3 ? BOOL : INT;
            rule(type.kind != 8 || type.value != due, 15, node);
        }
        int simple = type.kind == 8 ? type.value : type.kind == 9 ? type.child(2).value : -1;
        if (constant != null) {
            boolean input = place != null && (place.value / 256 == 0 || place.value / 256 == 3);
            boolean truth = constant.kind == 31;
            rule(type.kind == 10 || input || truth != (simple == BOOL) || simple == INT && (constant.value < -32768 || constant.value > 32767), 18, node);
        }
        for (ModelReader.Node child : node.children) {
            if (child.kind == 6) {
                settle(block.variables.get(child.name), type, place, simple, constant);
            }
        }
        rule(block.variableCells > 4096, 19, node);
    }

    private void settle(Variable variable, ModelReader.Node type, ModelReader.Node place, int simple, ModelReader.Node constant) {
        variable.type = simple;
        variable.constant = constant == null ? 0 : constant.value;
        int size = 1;
        if (type.kind == 9) {
            variable.array = true;
            variable.low = type.child(0).value;
            variable.elements = type.child(1).value - variable.low + 1;
            size = variable.elements;
        }
        if (type.kind == 10) {
            variable.instance = (Block) type.meant;
            size = variable.instance.cells;
        }
        if (place != null) {
            variable.place = place.value;
            variable.cell = new int[] {0, 256, 512, 768, 832, 896}[place.value / 256] + place.value % 256;
        } else {
            variable.cell = block.variableCells;
            block.variableCells += size;
        }
    }

    private void number(ModelReader.Node node) {
        node.type = node.value <= 32767 ? INT : DINT;
        node.constant = node.value;
    }

    private void element(ModelReader.Node node) {
        Variable variable = rulesOfName(node, "array");
        rule(node.child(0).type == BOOL, 22, node);
        node.type = variable.type;
    }

    private void output(ModelReader.Node node) {
        Variable variable = rulesOfName(node, "instance");
        Variable field = variable.instance.variables.get(node.child(0).name);
        rule(field == null || field.section != 2, 23, node);
        node.field = field;
        node.type = field.type;
    }

    private static boolean fits(int type, int other) {
        return type == other || type == INT && other == DINT;
    }

    private static boolean isNumber(int type) {
        return type == INT || type == DINT;
    }

    /** Two numbers give the wider one, two BOOLs BOOL if that is asked for; else -1. */
    private static int both(int x, int y, boolean bools) {
        if (isNumber(x) && isNumber(y)) {
            return x == DINT || y == DINT ? DINT : INT;
        }
        return bools && x == BOOL && y == BOOL ? BOOL : -1;
    }

    private void call(ModelReader.Node node) {
        List<ModelReader.Node> given = node.children;
        int function = FUNCTIONS.indexOf(node.name);
        Block called = before.get(node.name);
        rule(function < 0 && (called == null || called.kind != 1), 24, node);
        int due = function < 0 ? called.inputs().size() : new int[] {1, 2, 2, 3, 3, 2, 2, 1, 1, 1}[function];
        rule(given.size() != due, 25, node);
        if (function < 0) {
            for (int i = 0; i < due; i++) {
                rule(!fits(given.get(i).type, called.inputs().get(i).type), 26, node);
            }
            node.meant = called;
            node.type = called.type;
            return;
        }
        node.type = typeOfStandard(node.name, given);
        rule(node.type < 0, 26, node);
        if (given.stream().allMatch(c -> c.constant != null)) {
            int[] x = given.stream().mapToInt(c -> c.constant).toArray();
            node.constant = valueOfStandard(node.name, given.get(0).type, x);
        }
    }

    private static int typeOfStandard(String name, List<ModelReader.Node> given) {
        int x = given.get(0).type;
        int y = given.size() > 1 ? given.get(1).type : -1;
        int z = given.size() > 2 ? given.get(2).type : -1;
        switch (name) {
            case "ABS": return isNumber(x) ? x : -1;
            case "MIN": case "MAX": return both(x, y, false);
            case "LIMIT": return both(both(x, y, false), z, false);
            case "SEL": return x == BOOL ? both(y, z, true) : -1;
            case "SHL": case "SHR": return isNumber(x) && isNumber(y) ? x : -1;
            case "TO_BOOL": return isNumber(x) ? BOOL : -1;
            default: return name.equals("TO_INT") ? INT : DINT;
        }
    }

    private static int valueOfStandard(String name, int type, int[] x) {
        switch (name) {
            case "ABS": return ModelCode.one(type == INT ? 4 : 5, x[0]);
            case "MIN": return ModelCode.two(23, x[0], x[1]);
            case "MAX": return ModelCode.two(24, x[0], x[1]);
            case "LIMIT": return ModelCode.two(23, ModelCode.two(24, x[0], x[1]), x[2]);
            case "SEL": return x[0] != 0 ? x[2] : x[1];
            case "SHL": return ModelCode.two(type == INT ? 19 : 21, x[0], x[1]);
            case "SHR": return ModelCode.two(type == INT ? 20 : 22, x[0], x[1]);
            case "TO_INT": return ModelCode.one(6, x[0]);
            case "TO_DINT": return x[0];
            default: return ModelCode.one(7, x[0]);
        }
    }

    private void two(ModelReader.Node node) {
        ModelReader.Node x = node.child(0);
        ModelReader.Node y = node.child(1);
        int type = both(x.type, y.type, node.value <= 4);
        rule(type < 0, 27, node);
        node.type = node.value >= 3 && node.value <= 8 ? BOOL : type;
        boolean byZero = node.value >= 12 && y.constant != null && y.constant == 0;
        if (x.constant != null && y.constant != null && !byZero) {
            node.constant = ModelCode.two(ModelCode.kindOfTwo(node), x.constant, y.constant);
        }
    }

    private void one(ModelReader.Node node) {
        ModelReader.Node x = node.child(0);
        rule(node.value == 0 && x.type == BOOL, 28, node);
        node.type = x.type;
        if (x.constant != null) {
            node.constant = ModelCode.one(ModelCode.kindOfOne(node), x.constant);
        }
    }

    private void assigned(Variable variable, ModelReader.Node node) {
        boolean input = variable.place >= 0 && (variable.place / 256 == 0 || variable.place / 256 == 3);
        rule(variable.section == 1 || input, 29, node);
        rule(parents.stream().anyMatch(p -> p.kind == 19 && p.name.equals(variable.name)), 30, node);
    }

    private void assignment(ModelReader.Node node) {
        assigned((Variable) node.child(0).meant, node);
        rule(!fits(node.child(1).type, node.child(0).type), 31, node);
    }

    private void parameter(ModelReader.Node node) {
        ModelReader.Node invocation = parent(0);
        Variable variable = block.variables.get(invocation.name);
        if (variable == null || variable.instance == null) {
            return;
        }
        Variable input = variable.instance.variables.get(node.name);
        rule(input == null || input.section != 1, 32, node);
        for (ModelReader.Node other : invocation.children) {
            if (other == node) {
                break;
            }
            rule(other.name.equals(node.name), 33, node);
        }
        rule(!fits(node.child(0).type, input.type), 31, node);
        node.meant = input;
    }

    private void ifRule(ModelReader.Node node) {
        for (int i = 0; i + 1 < node.children.size(); i++) {
            boolean asked = node.child(i).kind != 11 && node.child(i + 1).kind == 11;
            rule(asked && node.child(i).type != BOOL, 34, node);
        }
    }

    private void range(ModelReader.Node node) {
        rule(node.children.stream().anyMatch(c -> c.kind == 31) || node.child(0).value > node.last().value, 35, node);
    }

    private void loop(ModelReader.Node node) {
        Variable variable = rulesOfName(node, "simple");
        rule(variable.type == BOOL, 22, node);
        assigned(variable, node);
        node.type = variable.type;
        boolean wrong = false;
        for (ModelReader.Node child : node.children) {
            wrong |= child.kind == 31 || child.kind == 30 && variable.type == INT && (child.value < -32768 || child.value > 32767);
        }
        rule(wrong || stepOf(node) == 0, 36, node);
        rule(timesOf(node).compareTo(BigInteger.valueOf(1000000)) > 0, 36, node);
    }

    static int stepOf(ModelReader.Node node) {
        return node.children.size() == 4 ? node.child(2).value : 1;
    }

    /** How often: with steps up while the first constant is not above the second, or the other way round. */
    static BigInteger timesOf(ModelReader.Node node) {
        BigInteger from = BigInteger.valueOf(node.child(0).value);
        BigInteger to = BigInteger.valueOf(node.child(1).value);
        BigInteger step = BigInteger.valueOf(stepOf(node));
        BigInteger way = step.signum() > 0 ? to.subtract(from) : from.subtract(to);
        return way.signum() < 0 ? BigInteger.ZERO : way.divide(step.abs()).add(BigInteger.ONE);
    }

    static int cellsOf(ModelReader.Node row) {
        return (int) row.children.stream().filter(c -> c.kind != 29).count();
    }

    private void rung(ModelReader.Node node) {
        boolean wrong = node.children.size() > 12;
        for (ModelReader.Node row : node.children) {
            wrong |= cellsOf(row) > 12 || cellsOf(row) != cellsOf(node.child(0));
        }
        rule(wrong, 38, node);
    }

    private void coil(ModelReader.Node node) {
        rule(parent(0).last() != node, 39, node);
        rule(node.child(0).type != BOOL, 41, node);
        assigned((Variable) node.child(0).meant, node);
    }

    private void link(ModelReader.Node node) {
        rule(parent(1).last() == parent(0), 40, node);
    }
}
