import java.util.ArrayList;
import java.util.List;
import java.util.Random;

/** Texts as large, as deep, as full or as empty as the document lets them be, against the second program. */
public final class GrandTest {
    private static final String[] TYPES = {"BOOL", "INT", "DINT"};
    private static final int[] told = new int[64];

    private final Random random;
    private final StringBuilder text = new StringBuilder();
    private int names = 0;

    private GrandTest(long seed) {
        random = new Random(seed);
    }

    public static void main(String[] args) {
        int runs = args.length > 0 ? Integer.parseInt(args[0]) : 60;
        long first = args.length > 1 ? Long.parseLong(args[1]) : 1;
        for (long seed = first; seed < first + runs; seed++) {
            for (int family = 0; family < 10; family++) {
                compare("family " + family + " seed " + seed, new GrandTest(10 * seed + family).make(family), new Random(seed));
            }
        }
        for (int fault : new int[] {0, 7, 19, 42, 44, 50, 51, 52, 53}) {
            Bench.due("texts with fault " + fault, told[fault] > 0 ? 1 : 0, 1);
        }
        if (args.length > 0) {
            System.out.println(java.util.Arrays.toString(told));
        }
        Bench.finish("GrandTest");
    }

    private static void compare(String what, String text, Random random) {
        if (text.length() > 10000) {
            return;
        }
        PlantKeeper x = new PlantKeeper();
        Model model = new Model();
        Bench.tape(x, text);
        feed(model, text);
        int budget = random.nextInt(4) == 0 ? 100 + random.nextInt(3000) : 100000;
        int want = model.load(budget);
        told[want]++;
        int[] got = new int[1];
        Bench.ends(what + " load " + text, () -> got[0] = x.load(budget));
        due(what + " load(" + budget + ")", text, got[0], want);
        for (int scan = 0; scan < 3; scan++) {
            for (int which = 0; which <= 9; which++) {
                due(what + " count(" + which + ")", text, x.count(which), model.count(which));
            }
            for (int i = 0; i < 12; i++) {
                int area = i % 6;
                int v = random.nextInt(2);
                due(what + " put", text, x.put(area, i, v), model.put(area, i, v));
                due(what + " get(" + area + ", " + i + ")", text, x.get(area, i), model.get(area, i));
            }
            due(what + " scan", text, x.scan(7), model.scan(7));
        }
        due(what + " restart", text, x.restart(), model.restart());
        due(what + " scan", text, x.scan(7), model.scan(7));
    }

    private static void feed(Model model, String text) {
        for (int i = 0; i < text.length(); i += 20) {
            int[] w = new int[5];
            for (int k = 0; k < 20 && i + k < text.length(); k++) {
                w[k / 4] |= text.charAt(i + k) << 24 - 8 * (k % 4);
            }
            model.feed(w);
        }
        if (text.length() % 20 != 0) {
            model.end(text.length() % 20);
        }
    }

    private static void due(String what, String text, int got, int want) {
        Bench.due(got == want ? "" : what + " of " + text, got, want);
    }

    private int below(int n) {
        return random.nextInt(n);
    }

    private String fresh() {
        names++;
        return "n" + Integer.toString(names, 36) + "_";
    }

    private String make(int family) {
        switch (family) {
            case 0: deepStatements(); break;
            case 1: deepExpressions(); break;
            case 2: highStacks(); break;
            case 3: manyCells(); break;
            case 4: cellsOfFunctions(); break;
            case 5: manySteps(); break;
            case 6: manyInstructions(); break;
            case 7: fullLadders(); break;
            case 8: manyBlocks(); break;
            default: instances();
        }
        return text.toString();
    }

    private static final String HEAD = "PROGRAM p VAR a,c,d:INT;e AT %QW0:INT;w:DINT;z,y:BOOL;q AT %QX1:BOOL;r:ARRAY[0..9]OF INT;k0,k1,k2,k3:INT;t:TON;END_VAR ";

    /** Statements in statements, with an expression in the innermost one, up to and above 60 open tokens. */
    private void deepStatements() {
        text.append(HEAD);
        List<String> ends = new ArrayList<>();
        int depth = 50 + below(13);
        int loops = 0;
        for (int i = 0; i < depth; i++) {
            int kind = below(loops < 4 ? 4 : 3);
            if (kind == 0) {
                text.append("IF z THEN ");
                ends.add(below(2) == 0 ? "a:=1;ELSE c:=2;END_IF;" : "ELSIF y THEN a:=3;END_IF;");
            } else if (kind == 1) {
                text.append("IF y THEN ELSE ");
                ends.add("END_IF;");
            } else if (kind == 2) {
                text.append("CASE a OF 0..3,7:");
                ends.add(below(2) == 0 ? "END_CASE;" : "ELSE d:=a;END_CASE;");
            } else {
                text.append("FOR k").append(loops).append(":=0 TO ").append(below(3)).append(" DO ");
                loops++;
                ends.add(below(3) == 0 ? "EXIT;END_FOR;" : "END_FOR;");
            }
        }
        text.append("a:=");
        operand(Math.max(0, 61 - depth - below(4)));
        text.append(";e:=e+1;");
        for (int i = ends.size() - 1; i >= 0; i--) {
            text.append(ends.get(i));
        }
        text.append("END_PROGRAM");
    }

    /** An INT operand with about so many open tokens. */
    private void operand(int open) {
        if (open <= 0) {
            text.append(new String[] {"a", "c", "r[3]", "7", "d"}[below(5)]);
            return;
        }
        switch (below(8)) {
            case 0: text.append("-"); operand(open - 1); break;
            case 1: text.append("NOT "); operand(open - 1); break;
            case 2: text.append("("); operand(open - 1); text.append(")"); break;
            case 3: text.append("r["); operand(open - 1); text.append("]"); break;
            case 4: text.append("ABS("); operand(open - 1); text.append(")"); break;
            case 5: text.append("MAX(1,"); operand(open - 1); text.append(")"); break;
            case 6: text.append("(a+"); operand(open - 2); text.append(")"); break;
            default: text.append("("); operand(open - 2); text.append("*c)");
        }
    }

    private void deepExpressions() {
        text.append(HEAD);
        for (int i = 1 + below(3); i > 0; i--) {
            text.append(below(2) == 0 ? "a:=" : "r[0]:=");
            operand(55 + below(8));
            text.append(";");
        }
        text.append("IF ");
        operand(50 + below(9));
        text.append(below(2) == 0 ? ">a THEN c:=1;END_IF;END_PROGRAM" : "<=0 THEN t(IN:=TRUE,PT:=1);END_IF;END_PROGRAM");
    }

    /** Calls in calls: the numbers before the one that is a call lie on the stack. */
    private void highStacks() {
        int inputs = 5 + below(5);
        text.append("FUNCTION f:INT VAR_INPUT ");
        for (int i = 0; i < inputs; i++) {
            text.append(i == 0 ? "" : ",").append("i").append(i);
        }
        text.append(":INT;END_VAR f:=i0-i").append(inputs - 1).append(";END_FUNCTION ");
        text.append(HEAD).append(below(5) == 0 ? "RETURN;" : "").append("a:=");
        int high = 0;
        int due = 56 + below(8);
        List<String> ends = new ArrayList<>();
        while (high < due) {
            int before = Math.min(below(inputs), due - high);
            text.append("f(").append("1,".repeat(before));
            ends.add(",1".repeat(inputs - 1 - before) + ")");
            high += before + (before == 0 ? 1 : 0);
            if (ends.size() > 56) {
                break;
            }
        }
        text.append(below(2) == 0 ? "a" : "a+c");
        for (int i = ends.size() - 1; i >= 0; i--) {
            text.append(ends.get(i));
        }
        text.append(";e:=a;END_PROGRAM");
    }

    /** Variables of a block up to 4,096 cells. */
    private void manyCells() {
        boolean program = below(2) == 0;
        int most = 4090 + below(8);
        text.append("FUNCTION_BLOCK s VAR v:INT:=5;w:ARRAY[1..").append(1 + below(40)).append("]OF DINT:=-7;END_VAR v:=v+1;END_FUNCTION_BLOCK ");
        text.append(program ? "PROGRAM p VAR x:s;" : "FUNCTION_BLOCK g VAR x:s;");
        int sum = program ? 960 : 0;
        while (sum < most - 256) {
            int n = 1 + below(256);
            text.append(fresh()).append(":ARRAY[").append(5 - n).append("..4]OF ").append(TYPES[below(3)]).append(";");
            sum += n;
        }
        for (int i = below(300); i > 0; i--) {
            text.append(fresh()).append(below(20) == 0 ? ":s;" : ":INT;");
        }
        text.append("END_VAR ");
        for (int i = below(3); i > 0; i--) {
            text.append("CASE 1 OF 1:END_CASE;");
        }
        text.append(program ? "x();END_PROGRAM" : "x();END_FUNCTION_BLOCK PROGRAM p VAR o:INT;END_VAR END_PROGRAM");
    }

    /** FUNCTIONS with ladders have many cells in few bytes: up to 8,192 in all. */
    private void cellsOfFunctions() {
        int functions = below(12);
        for (int i = 0; i < functions; i++) {
            text.append("FUNCTION f").append(i).append(":BOOL VAR_INPUT u").append(below(5) == 0 ? ",u1,u2,u3,u4,u5,u6,u7" : "").append(below(20) == 0 ? ",u8" : "").append(":BOOL;END_VAR VAR v").append(i).append(":BOOL;END_VAR LADDER ");
            for (int k = below(3); k > 0; k--) {
                text.append("RUNG >u - (v").append(i).append(");END_RUNG ");
            }
            text.append("END_LADDER END_FUNCTION ");
        }
        int variables = below(1500);
        text.append("FUNCTION g:INT VAR ");
        for (int i = 0; i < variables; i++) {
            text.append(i == 0 ? "" : ",").append(Integer.toString(36 * 36 * 10 + i, 36));
        }
        text.append(variables == 0 ? "" : ":INT;").append("END_VAR g:=3;END_FUNCTION PROGRAM p VAR r AT %QW1:INT;");
        for (int i = below(4) == 0 ? 12 : 11 + below(2); i > 0; i--) {
            text.append("k").append(i).append(":ARRAY[1..256]OF INT;");
        }
        text.append("END_VAR r:=g();END_PROGRAM");
        if (below(2) == 0) {
            int more = 20 + below(30);
            StringBuilder before = new StringBuilder();
            for (int i = 0; i < more; i++) {
                before.append("FUNCTION h").append(i).append(":INT LADDER END_LADDER END_FUNCTION ");
            }
            text.insert(0, before);
        }
    }

    /** Loops in loops, and units in units. */
    private void manySteps() {
        int[] most = {0, 1, 2, 9, 10, 31, 99, 100, 1000, 31622, 999, 20};
        int units = below(4);
        for (int i = 0; i < units; i++) {
            boolean function = below(2) == 0;
            text.append(function ? "FUNCTION u" + i + ":INT VAR k0,k1:INT;" : "FUNCTION_BLOCK u" + i + " VAR k0,k1:INT;");
            boolean begins = i > 0 && text.indexOf("FUNCTION u" + (i - 1) + ":") >= 0;
            boolean enters = i > 0 && !begins && !function;
            text.append(enters ? "b:u" + (i - 1) + ";" : "").append("END_VAR ");
            rounds(1, most, begins ? "k1:=k1+u" + (i - 1) + "();" : enters ? "b();" : "IF k1>3 THEN " + (below(2) == 0 ? "EXIT" : "RETURN") + ";END_IF;");
            text.append(function ? "END_FUNCTION " : "END_FUNCTION_BLOCK ");
        }
        boolean last = units > 0 && text.indexOf("FUNCTION u" + (units - 1) + ":") >= 0;
        text.append("PROGRAM p VAR k0,k1,k2,s:DINT;e AT %QW0:INT;").append(units > 0 && !last ? "b:u" + (units - 1) + ";" : "").append("END_VAR ");
        rounds(3, most, units == 0 ? "s:=s+k0;" : last ? "e:=u" + (units - 1) + "();" : "b();");
        text.append("END_PROGRAM");
    }

    /** Some loops in one another, with something in the innermost one (without any it can't EXIT). */
    private void rounds(int most, int[] times, String inner) {
        int loops = below(most + 1);
        for (int i = 0; i < loops; i++) {
            text.append("FOR k").append(i).append(":=1 TO ").append(times[below(times.length)]).append(" DO ");
        }
        text.append(loops > 0 ? inner : inner.replace("EXIT;", "RETURN;"));
        for (int i = 0; i < loops; i++) {
            text.append(below(6) == 0 ? "EXIT;" : "").append("END_FOR;");
        }
    }

    /** Sums, which have the most instructions for their bytes, and other parts up to 4,000 of them. */
    private void manyInstructions() {
        text.append(below(2) == 0 ? "FUNCTION f:INT f:=1;END_FUNCTION " : "").append(HEAD);
        String[] parts = {"a:=1;", "t();", "a:=c;", "e:=a+1;", "IF z THEN END_IF;", "RETURN;", "a:=a/1;"};
        int[] sizes = {2, 1, 2, 4, 2, 1, 4};
        int due = 3990 + below(20);
        int sum = 0;
        while (sum < due - 104) {
            int more = 20 + below(30);
            text.append("d:=c").append("+a".repeat(more)).append(";");
            sum += 2 * more + 2;
        }
        while (sum < due) {
            int part = below(10) > 0 ? below(2) : below(parts.length);
            text.append(parts[part]);
            sum += sizes[part];
        }
        text.append("END_PROGRAM");
    }

    private void fullLadders() {
        text.append("PROGRAM p VAR q0 AT %QX0:BOOL;q1 AT %QX1:BOOL;i0 AT %IX0:BOOL;i6 AT %IX6:BOOL;m2 AT %MX2:BOOL;t:TON;v:BOOL;END_VAR LADDER ");
        for (int i = 1 + below(3); i > 0; i--) {
            int rows = below(10) == 0 ? 13 : 1 + below(12);
            int columns = below(20) == 0 ? 13 : 1 + below(12);
            text.append("RUNG ");
            for (int r = 0; r < rows; r++) {
                for (int c = 0; c < columns; c++) {
                    text.append(c > 0 && r < rows - 1 && below(3) == 0 ? "|" : " ");
                    ladderCell(c == columns - 1);
                }
                text.append(";");
            }
            text.append("END_RUNG ");
        }
        text.append("END_LADDER END_PROGRAM");
    }

    private void ladderCell(boolean last) {
        if (last && below(4) > 0) {
            text.append("(").append(new String[] {"", "/", "+", "-"}[below(4)]).append(new String[] {"q0", "q1", "v", "m2"}[below(4)]).append(")");
        } else if (below(3) == 0) {
            text.append(new String[] {"-", "-", "*"}[below(3)]);
        } else {
            text.append(new String[] {"", "/", ">", "<"}[below(4)]).append(new String[] {"q0", "i0", "i6", "m2", "t.Q", "v"}[below(6)]);
        }
    }

    private void manyBlocks() {
        int blocks = below(4) == 0 ? 17 + below(150) : 12 + below(6);
        for (int i = 0; i < blocks - 1; i++) {
            text.append(below(2) == 0 ? "FUNCTION " + fresh() + ":INT END_FUNCTION " : "FUNCTION_BLOCK " + fresh() + " END_FUNCTION_BLOCK ");
        }
        text.append(below(20) == 0 ? "" : "PROGRAM p END_PROGRAM ").append(below(20) == 0 ? "FUNCTION x:INT END_FUNCTION" : "");
    }

    /** Blocks with many instances of others, most without cells, invoked here and there. */
    private void instances() {
        int blocks = 2 + below(14);
        for (int i = 0; i <= blocks; i++) {
            boolean program = i == blocks;
            text.append(program ? "PROGRAM p VAR " : "FUNCTION_BLOCK B" + i + " VAR ");
            int instances = i == 0 ? 0 : below(12);
            StringBuilder body = new StringBuilder();
            for (int k = 0; k < instances; k++) {
                text.append("i").append(k).append(":B").append(below(3) == 0 ? below(i) : i - 1).append(";");
                body.append(below(6) == 0 ? "i" + k + "();" : "");
            }
            if (below(blocks) == 0) {
                text.append("v:INT:=").append(i).append(";");
                body.append("v:=v+1;");
            }
            text.append(program ? "e AT %QW1:INT;" : "").append("END_VAR ").append(body).append(program ? "e:=e+3;END_PROGRAM" : "END_FUNCTION_BLOCK ");
        }
    }
}
