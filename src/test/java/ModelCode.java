import java.math.BigInteger;
import java.util.ArrayList;
import java.util.Arrays;
import java.util.List;

/** The model's CODE, LOADING and the numbers of INSTRUCTIONS, written once more from the document's words. */
final class ModelCode {
    static final class Instruction {
        final String op;
        final int[] numbers;
        /** Where a jump goes: the number of an instruction is laid in it when it is known. */
        final int[] there;

        Instruction(String op, int[] there, int... numbers) {
            this.op = op;
            this.there = there;
            this.numbers = numbers;
        }
    }

    /** The most steps of ways through a part: to its end, out of the loop, out of the unit; -1 if there is none. */
    static final class Ways {
        final long through;
        final long out;
        final long leave;

        Ways(long through, long out, long leave) {
            this.through = through;
            this.out = out;
            this.leave = leave;
        }

        /** These ways, or those. */
        Ways or(Ways other) {
            return new Ways(Math.max(through, other.through), Math.max(out, other.out), Math.max(leave, other.leave));
        }

        /** These ways, and behind them those. */
        Ways then(Ways other) {
            return new Ways(add(through, other.through), Math.max(out, add(through, other.out)), Math.max(leave, add(through, other.leave)));
        }

        static Ways steps(long n) {
            return new Ways(n, -1, -1);
        }

        private static long add(long x, long y) {
            return x < 0 || y < 0 ? -1 : Math.min(x + y, 1000000000000L);
        }
    }

    final List<List<Instruction>> units = new ArrayList<>();
    final List<Long> bounds = new ArrayList<>();
    private List<Instruction> unit;
    private ModelJudge.Block block;
    private int[] exit;

    // Numbers

    private static int low(BigInteger x, int bits) {
        return bits == 16 ? (int) (short) x.intValue() : x.intValue();
    }

    static int two(int k, int x, int y) {
        BigInteger a = BigInteger.valueOf(x);
        BigInteger b = BigInteger.valueOf(y);
        if (k < 10) {
            int bits = k < 5 ? 16 : 32;
            switch (k % 5) {
                case 0: return low(a.add(b), bits);
                case 1: return low(a.subtract(b), bits);
                case 2: return low(a.multiply(b), bits);
                case 3: return low(a.divide(b), bits);
                default: return low(a.remainder(b), bits);
            }
        }
        boolean[] compared = {x == y, x != y, x < y, x > y, x <= y, x >= y};
        switch (k) {
            case 10: return x & y;
            case 11: return x | y;
            case 12: return x ^ y;
            case 19: return y < 0 || y > 15 ? 0 : low(a.shiftLeft(y), 16);
            case 20: return y < 0 || y > 15 ? 0 : low(BigInteger.valueOf(x & 65535).shiftRight(y), 16);
            case 21: return y < 0 || y > 31 ? 0 : low(a.shiftLeft(y), 32);
            case 22: return y < 0 || y > 31 ? 0 : low(BigInteger.valueOf(x & 4294967295L).shiftRight(y), 32);
            case 23: return x < y ? x : y;
            case 24: return x > y ? x : y;
            default: return compared[k - 13] ? 1 : 0;
        }
    }

    static int one(int k, int x) {
        BigInteger a = BigInteger.valueOf(x);
        switch (k) {
            case 0: return low(a.negate(), 16);
            case 1: return low(a.negate(), 32);
            case 2: return x == 0 ? 1 : 0;
            case 3: return low(a.not(), 32);
            case 4: return low(a.abs(), 16);
            case 5: return low(a.abs(), 32);
            case 6: return low(a, 16);
            default: return x == 0 ? 0 : 1;
        }
    }

    static int kindOfTwo(ModelReader.Node node) {
        int sign = node.value;
        if (sign >= 9) {
            return sign - 9 + (node.type == ModelJudge.INT ? 0 : 5);
        }
        return new int[] {11, 12, 10, 13, 14, 15, 16, 17, 18}[sign];
    }

    static int kindOfOne(ModelReader.Node node) {
        if (node.value == 0) {
            return node.type == ModelJudge.INT ? 0 : 1;
        }
        return node.type == ModelJudge.BOOL ? 2 : 3;
    }

    // LOADING

    void load(ModelJudge judge, int budget) {
        if (judge.blocks.size() > 16) {
            throw new ModelReader.Fault(50, 0);
        }
        int all = 0;
        List<Ways> ways = new ArrayList<>();
        for (ModelJudge.Block one : judge.blocks) {
            block = one;
            unit = new ArrayList<>();
            // A unit before that is begun has its bound by now, whether it will be refused or not.
            Ways found = codeBlock();
            ways.add(found);
            bounds.add(Math.max(found.through, found.leave));
            units.add(unit);
            all += unit.size();
        }
        if (all > 4000) {
            throw new ModelReader.Fault(50, 0);
        }
        for (int u = 0; u < units.size(); u++) {
            int place = judge.blocks.get(u).node.place;
            if (highest(units.get(u)) > 64) {
                throw new ModelReader.Fault(51, place);
            }
            if (bounds.get(u) > 1000000000) {
                throw new ModelReader.Fault(52, place);
            }
        }
        int last = units.size() - 1;
        if (bounds.get(last) > budget) {
            throw new ModelReader.Fault(53, judge.blocks.get(last).node.place);
        }
    }

    /** Goes from instruction to instruction, with the stack's height behind each. */
    private static int highest(List<Instruction> code) {
        int[] heights = new int[code.size() + 1];
        Arrays.fill(heights, -1);
        List<Integer> work = new ArrayList<>();
        heights[0] = 0;
        work.add(0);
        int most = 0;
        while (!work.isEmpty()) {
            int i = work.remove(work.size() - 1);
            if (i == code.size()) {
                continue;
            }
            Instruction one = code.get(i);
            int height = heights[i] + rise(one.op);
            most = Math.max(most, height);
            List<Integer> next = new ArrayList<>();
            if (one.there != null) {
                next.add(one.there[0]);
            }
            if (!List.of("GO", "BACK", "LEAVE").contains(one.op)) {
                next.add(i + 1);
            }
            for (int n : next) {
                if (heights[n] < 0) {
                    heights[n] = height;
                    work.add(n);
                } else if (heights[n] != height) {
                    throw new IllegalStateException("two heights at one instruction");
                }
            }
        }
        return most;
    }

    private static int rise(String op) {
        switch (op) {
            case "PUSH": case "LOAD": case "READ": return 1;
            case "STORE": case "WRITE": case "TWO": case "UNLESS": return -1;
            case "PUT": case "CHOOSE": return -2;
            default: return 0;
        }
    }

    // CODE

    private Instruction emit(String op, int... numbers) {
        Instruction made = new Instruction(op, null, numbers);
        unit.add(made);
        return made;
    }

    private void jump(String op, int[] there, int... numbers) {
        unit.add(new Instruction(op, there, numbers));
    }

    /** What was coded from an instruction on has no jumps: its steps, with those of units that it begins. */
    private Ways from(int first) {
        long sum = 0;
        for (Instruction one : unit.subList(first, unit.size())) {
            boolean begins = one.op.equals("ENTER") || one.op.equals("CALL");
            sum += 1 + (begins ? bounds.get(one.numbers[0]) : 0);
        }
        return Ways.steps(Math.min(sum, 1000000000000L));
    }

    private Ways codeBlock() {
        if (block.kind == 1) {
            emit("PUSH", 0);
            emit("STORE", 0);
            for (ModelJudge.Variable variable : block.variables.values()) {
                if (variable.section == 0) {
                    emit("PUSH", variable.constant);
                    emit("STORE", variable.cell);
                }
            }
        }
        Ways ways = from(0);
        ModelReader.Node body = block.node.last();
        if (body.kind == 11) {
            return ways.then(body(body));
        }
        for (ModelReader.Node rung : body.children) {
            rung(rung);
        }
        return from(0);
    }

    private Ways body(ModelReader.Node body) {
        Ways ways = Ways.steps(0);
        for (ModelReader.Node node : body.children) {
            ways = ways.then(statement(node));
        }
        return ways;
    }

    private Ways statement(ModelReader.Node node) {
        int first = unit.size();
        switch (node.kind) {
            case 12: assignment(node); return from(first);
            case 13: invocation(node); return from(first);
            case 15: return ifStatement(node);
            case 16: return caseStatement(node);
            case 19: return loop(node);
            case 20: jump("GO", exit); return new Ways(-1, 1, -1);
            default: emit("LEAVE"); return new Ways(-1, -1, 1);
        }
    }

    private static ModelJudge.Variable variable(ModelReader.Node node) {
        return (ModelJudge.Variable) node.meant;
    }

    private void assignment(ModelReader.Node node) {
        ModelReader.Node target = node.child(0);
        ModelJudge.Variable variable = variable(target);
        if (target.kind == 6) {
            expression(node.child(1));
            emit("STORE", variable.cell);
        } else {
            expression(target.child(0));
            expression(node.child(1));
            emit("PUT", variable.cell, variable.low, variable.elements);
        }
    }

    private void invocation(ModelReader.Node node) {
        ModelJudge.Variable variable = variable(node);
        for (ModelReader.Node parameter : node.children) {
            expression(parameter.child(0));
            emit("STORE", variable.cell + variable(parameter).cell);
        }
        emit(variable.instance.kind == 0 ? "BLOCK" : "ENTER", variable.instance.number, variable.cell);
    }

    private Ways ifStatement(ModelReader.Node node) {
        int[] end = new int[1];
        Ways before = Ways.steps(0);
        Ways all = null;
        int i = 0;
        while (i + 1 < node.children.size() && node.child(i).kind != 11) {
            int first = unit.size();
            expression(node.child(i));
            before = before.then(from(first)).then(Ways.steps(1));
            all = branch(before, node.child(i + 1), i + 2 < node.children.size(), end, all);
            i += 2;
        }
        return lastBranch(node, i, before, end, all);
    }

    /** UNLESS, a body and, if another one is behind, GO. */
    private Ways branch(Ways before, ModelReader.Node body, boolean more, int[] end, Ways all) {
        int[] next = new int[1];
        jump("UNLESS", next);
        Ways ways = before.then(body(body));
        if (more) {
            jump("GO", end);
            ways = ways.then(Ways.steps(1));
        }
        next[0] = unit.size();
        return all == null ? ways : all.or(ways);
    }

    /** The body by ELSE, or none: then what was asked for is all. */
    private Ways lastBranch(ModelReader.Node node, int i, Ways before, int[] end, Ways all) {
        Ways ways = i < node.children.size() ? before.then(body(node.child(i))) : before;
        end[0] = unit.size();
        return all == null ? ways : all.or(ways);
    }

    private Ways caseStatement(ModelReader.Node node) {
        int own = block.own.get(node);
        int first = unit.size();
        expression(node.child(0));
        emit("STORE", own);
        Ways before = from(first);
        int[] end = new int[1];
        Ways all = null;
        int i = 1;
        while (i < node.children.size() && node.child(i).kind == 17) {
            ModelReader.Node choice = node.child(i);
            first = unit.size();
            for (int r = 0; r + 1 < choice.children.size(); r++) {
                range(choice.child(r), own);
                if (r > 0) {
                    emit("TWO", 11);
                }
            }
            before = before.then(from(first)).then(Ways.steps(1));
            all = branch(before, choice.last(), i + 1 < node.children.size(), end, all);
            i++;
        }
        return lastBranch(node, i, before, end, all);
    }

    private void range(ModelReader.Node range, int own) {
        emit("LOAD", own);
        emit("PUSH", range.child(0).value);
        if (range.children.size() == 1) {
            emit("TWO", 13);
            return;
        }
        emit("TWO", 18);
        emit("LOAD", own);
        emit("PUSH", range.child(1).value);
        emit("TWO", 17);
        emit("TWO", 10);
    }

    private Ways loop(ModelReader.Node node) {
        int cell = variable(node).cell;
        int own = block.own.get(node);
        long times = ModelJudge.timesOf(node).longValueExact();
        emit("PUSH", node.child(0).value);
        emit("STORE", cell);
        emit("COUNT", own, (int) times);
        int next = unit.size();
        int[] behind = new int[1];
        jump("NEXT", behind, own);
        int[] outer = exit;
        exit = behind;
        Ways body = body(node.last());
        exit = outer;
        emit("LOAD", cell);
        emit("PUSH", ModelJudge.stepOf(node));
        emit("TWO", node.type == ModelJudge.INT ? 0 : 5);
        emit("STORE", cell);
        jump("BACK", new int[] {next});
        behind[0] = unit.size();
        return Ways.steps(3).then(rounds(times, Ways.steps(1).then(body), 5));
    }

    /** All rounds and the last NEXT; or some rounds, and one in which the loop is left. */
    private static Ways rounds(long times, Ways part, long rest) {
        Ways none = Ways.steps(1);
        if (times == 0) {
            return none;
        }
        boolean whole = part.through >= 0;
        long round = whole ? part.through + rest : -1;
        long before = whole ? (times - 1) * round : 0;
        long through = whole ? before + round + 1 : -1;
        long left = part.out >= 0 ? before + part.out : -1;
        long gone = part.leave >= 0 ? before + part.leave : -1;
        return Ways.steps(0).then(new Ways(Math.max(through, left), -1, gone));
    }

    private void expression(ModelReader.Node node) {
        if (node.constant != null) {
            emit("PUSH", node.constant);
            return;
        }
        if (node.kind == 34) {
            call(node);
            return;
        }
        for (ModelReader.Node child : node.children) {
            if (node.kind != 33) {
                expression(child);
            }
        }
        switch (node.kind) {
            case 6: case 33: emit("LOAD", cellOf(node)); break;
            case 32: emit("TAKE", variable(node).cell, variable(node).low, variable(node).elements); break;
            case 35: emit("TWO", kindOfTwo(node)); break;
            default: emit("ONE", kindOfOne(node));
        }
    }

    private static int cellOf(ModelReader.Node node) {
        int field = node.kind == 33 ? ((ModelJudge.Variable) node.field).cell : 0;
        return variable(node).cell + field;
    }

    private void call(ModelReader.Node node) {
        List<ModelReader.Node> given = node.children;
        boolean isInt = !given.isEmpty() && given.get(0).type == ModelJudge.INT;
        if (node.name.equals("LIMIT") && node.meant == null) {
            expression(given.get(0));
            expression(given.get(1));
            emit("TWO", 24);
            expression(given.get(2));
            emit("TWO", 23);
            return;
        }
        for (ModelReader.Node one : given) {
            expression(one);
        }
        if (node.meant != null) {
            ModelJudge.Block called = (ModelJudge.Block) node.meant;
            for (int i = given.size() - 1; i >= 0; i--) {
                emit("WRITE", called.number, called.inputs().get(i).cell);
            }
            emit("CALL", called.number);
            emit("READ", called.number, 0);
            return;
        }
        switch (node.name) {
            case "ABS": emit("ONE", isInt ? 4 : 5); break;
            case "MIN": emit("TWO", 23); break;
            case "MAX": emit("TWO", 24); break;
            case "SEL": emit("CHOOSE"); break;
            case "SHL": emit("TWO", isInt ? 19 : 21); break;
            case "SHR": emit("TWO", isInt ? 20 : 22); break;
            case "TO_INT": emit("ONE", 6); break;
            case "TO_BOOL": emit("ONE", 7); break;
            default:
        }
    }

    // LADDER

    private ModelReader.Node[][] grid;
    private boolean[][] linked;

    /** Of a row at a line (from 1 on): the least row of its group. */
    private int least(int row, int line) {
        int r = row;
        while (r > 0 && linked[r - 1][line]) {
            r--;
        }
        return r;
    }

    private int power(int row, int line) {
        return block.cells - 156 + 12 * (line - 1) + least(row, line);
    }

    private void rung(ModelReader.Node rung) {
        int rows = rung.children.size();
        int columns = ModelJudge.cellsOf(rung.child(0));
        grid = new ModelReader.Node[rows][columns];
        linked = new boolean[rows][columns + 1];
        for (int r = 0; r < rows; r++) {
            int c = 0;
            for (ModelReader.Node child : rung.child(r).children) {
                if (child.kind == 29) {
                    linked[r][c] = true;
                } else {
                    grid[r][c] = child;
                    c++;
                }
            }
        }
        for (int line = 1; line <= columns; line++) {
            for (int r = 0; r < rows; r++) {
                boolean ends = line == columns && grid[r][columns - 1].kind == 28;
                if (least(r, line) == r && !ends) {
                    group(r, line, rows);
                }
            }
        }
        for (int r = 0; r < rows; r++) {
            if (grid[r][columns - 1].kind == 28) {
                coil(grid[r][columns - 1], r, columns);
            }
        }
    }

    private void group(int first, int line, int rows) {
        int ways = 0;
        for (int r = first; r < rows && least(r, line) == first; r++) {
            ModelReader.Node cell = grid[r][line - 1];
            if (cell.kind == 27) {
                continue;
            }
            if (line == 1) {
                emit("PUSH", 1);
            } else {
                emit("LOAD", power(r, line - 1));
            }
            if (cell.kind == 25) {
                contact(cell);
            }
            ways++;
            if (ways >= 2) {
                emit("TWO", 11);
            }
        }
        if (ways == 0) {
            emit("PUSH", 0);
        }
        emit("STORE", power(first, line));
    }

    private void contact(ModelReader.Node cell) {
        int seen = cellOf(cell.child(0));
        if (cell.value < 2) {
            emit("LOAD", seen);
            if (cell.value == 1) {
                emit("ONE", 2);
            }
            emit("TWO", 10);
            return;
        }
        int own = block.own.get(cell);
        emit("LOAD", cell.value == 2 ? seen : own);
        emit("LOAD", cell.value == 2 ? own : seen);
        emit("ONE", 2);
        emit("TWO", 10);
        emit("TWO", 10);
        emit("LOAD", seen);
        emit("STORE", own);
    }

    private void coil(ModelReader.Node coil, int row, int columns) {
        int cell = variable(coil.child(0)).cell;
        if (coil.value >= 2) {
            emit("LOAD", cell);
        }
        if (columns == 1) {
            emit("PUSH", 1);
        } else {
            emit("LOAD", power(row, columns - 1));
        }
        if (coil.value == 1 || coil.value == 3) {
            emit("ONE", 2);
        }
        if (coil.value >= 2) {
            emit("TWO", coil.value == 2 ? 11 : 10);
        }
        emit("STORE", cell);
    }
}
