import java.math.BigInteger;

/** Promise 9, INSTRUCTIONS: numbers of 16 and 32 bits at their ends, in scans and folded, against numbers without a bound. */
public final class NumberEdgesTest {
    private static final long[] SMALL = {-32768, -32767, -257, -256, -32, -17, -16, -15, -2, -1, 0, 1, 2, 3, 7, 14, 15, 16, 17, 31, 32, 33, 255, 256, 16384, 32766, 32767};
    private static final long[] LARGE = {-2147483648L, -2147483647L, -65537, -65536, -32769, -32768, -33, -32, -31, -2, -1, 0, 1, 2, 15, 16, 30, 31, 32, 33, 64, 32767, 32768, 65535, 65536, 1073741824L,
        2147483646L, 2147483647L};
    private static final String[] SIGNS = "+ - * / MOD AND OR XOR = <> < > <= >=".split(" ");
    private static final String[] FUNCTIONS = "MIN MAX SHL SHR".split(" ");

    public static void main(String[] args) {
        for (long x : SMALL) {
            for (long y : SMALL) {
                pair(x, y, true, true);
            }
        }
        for (long x : LARGE) {
            for (long y : LARGE) {
                pair(x, y, false, false);
            }
        }
        for (long x : new long[] {-32768, -1, 0, 1, 32767}) {
            for (long y : LARGE) {
                pair(x, y, true, false);
                pair(y, x, false, true);
            }
        }
        truths();
        threeOperands();
        Bench.finish("NumberEdgesTest");
    }

    /** The lowest 16 or 32 bits of a number, with sign. */
    private static long wrapped(BigInteger n, boolean small) {
        return small ? n.shortValue() : n.intValue();
    }

    private static final long FAULT = Long.MAX_VALUE;

    /** What a sign or a function of two operands leaves, reckoned without a bound first. */
    private static long two(String sign, long x, long y, boolean small, boolean firstSmall) {
        BigInteger a = BigInteger.valueOf(x);
        BigInteger b = BigInteger.valueOf(y);
        switch (sign) {
            case "+": return wrapped(a.add(b), small);
            case "-": return wrapped(a.subtract(b), small);
            case "*": return wrapped(a.multiply(b), small);
            // BigInteger cuts quotients off towards 0, and what is left has the sign of the first one.
            case "/": return y == 0 ? FAULT : wrapped(a.divide(b), small);
            case "MOD": return y == 0 ? FAULT : wrapped(a.remainder(b), small);
            case "AND": return a.and(b).longValue();
            case "OR": return a.or(b).longValue();
            case "XOR": return a.xor(b).longValue();
            case "=": return x == y ? 1 : 0;
            case "<>": return x != y ? 1 : 0;
            case "<": return x < y ? 1 : 0;
            case ">": return x > y ? 1 : 0;
            case "<=": return x <= y ? 1 : 0;
            case ">=": return x >= y ? 1 : 0;
            case "MIN": return Math.min(x, y);
            case "MAX": return Math.max(x, y);
            default:
                int bits = firstSmall ? 16 : 32;
                if (y < 0 || y >= bits) {
                    return 0;
                }
                BigInteger power = BigInteger.TWO.pow((int) y);
                BigInteger without = a.mod(BigInteger.TWO.pow(bits));
                return wrapped(sign.equals("SHL") ? a.multiply(power) : without.divide(power), firstSmall);
        }
    }

    private static long one(String sign, long x, boolean small) {
        BigInteger a = BigInteger.valueOf(x);
        switch (sign) {
            case "-": return wrapped(a.negate(), small);
            case "NOT ": return a.not().longValue();
            case "ABS": return wrapped(a.abs(), small);
            case "TO_INT": return wrapped(a, true);
            case "TO_DINT": return x;
            default: return x == 0 ? 0 : 1;
        }
    }

    private static String constant(long x, boolean small) {
        if (small) {
            return x == -32768 ? "(-32767 - 1)" : x < 0 ? "(-" + -x + ")" : "" + x;
        }
        if (x == -2147483648L) {
            return "(-2147483647 - 1)";
        }
        String plain = x < 0 ? "(-" + -x + ")" : "" + x;
        return "TO_DINT(" + plain + ")";
    }

    private static String form(String sign, String x, String y) {
        return Character.isLetter(sign.charAt(0)) && sign.length() == 3 && "MIN MAX SHL SHR".contains(sign) ? sign + "(" + x + ", " + y + ")" : x + " " + sign + " " + y;
    }

    /** All signs and functions of two numbers: in one text from variables, in another one from constants. */
    private static void pair(long x, long y, boolean xSmall, boolean ySmall) {
        StringBuilder vars = new StringBuilder();
        StringBuilder run = new StringBuilder();
        StringBuilder folded = new StringBuilder();
        String[] all = new String[SIGNS.length + FUNCTIONS.length];
        System.arraycopy(SIGNS, 0, all, 0, SIGNS.length);
        System.arraycopy(FUNCTIONS, 0, all, SIGNS.length, FUNCTIONS.length);
        boolean small = xSmall && ySmall;
        for (int i = 0; i < all.length; i++) {
            boolean compares = i >= 8 && i <= 13;
            boolean shifts = all[i].startsWith("SH");
            boolean fault = two(all[i], x, y, small, xSmall) == FAULT;
            String type = compares ? "BOOL" : (shifts ? xSmall : small) ? "INT" : "DINT";
            vars.append("v").append(i).append(" : ").append(type).append("; ");
            if (!fault) {
                run.append("v").append(i).append(" := ").append(form(all[i], "x", "y")).append("; ");
                folded.append("v").append(i).append(" := ").append(form(all[i], constant(x, xSmall), constant(y, ySmall))).append("; ");
            }
        }
        String[] ones = {"-", "NOT ", "ABS", "TO_INT", "TO_DINT", "TO_BOOL"};
        for (int i = 0; i < ones.length; i++) {
            String type = i == 3 ? "INT" : i == 4 ? "DINT" : i == 5 ? "BOOL" : xSmall ? "INT" : "DINT";
            vars.append("u").append(i).append(" : ").append(type).append("; ");
            run.append("u").append(i).append(" := ").append(ones[i]).append("(x); ");
            folded.append("u").append(i).append(" := ").append(ones[i]).append("(").append(constant(x, xSmall)).append("); ");
        }
        String given = "x : " + (xSmall ? "INT" : "DINT") + "; y : " + (ySmall ? "INT" : "DINT") + "; ";
        String set = "x := " + constant(x, xSmall) + "; y := " + constant(y, ySmall) + "; ";
        check("PROGRAM p VAR " + given + vars + "END_VAR " + set + run + "END_PROGRAM", all, ones, x, y, xSmall, ySmall);
        PlantKeeper z = check("PROGRAM p VAR " + vars + "END_VAR " + folded + "END_PROGRAM", all, ones, x, y, xSmall, ySmall);
        int statements = all.length + ones.length - (y == 0 ? 2 : 0);
        Bench.due("folded: a PUSH and a STORE each", z.count(3), 2 * statements);
        if (y == 0) {
            zero(x, xSmall, ySmall);
        }
    }

    private static PlantKeeper check(String text, String[] all, String[] ones, long x, long y, boolean xSmall, boolean ySmall) {
        PlantKeeper z = new PlantKeeper();
        Bench.due("load " + text, Bench.load(z, text), 0);
        Bench.due("scan", z.scan(0), z.count(3));
        boolean small = xSmall && ySmall;
        for (int i = 0; i < all.length; i++) {
            long want = two(all[i], x, y, small, xSmall);
            value(z, "v" + i, want == FAULT ? 0 : want, form(all[i], "" + x, "" + y));
        }
        for (int i = 0; i < ones.length; i++) {
            value(z, "u" + i, one(ones[i], x, xSmall), ones[i] + x);
        }
        return z;
    }

    private static void value(PlantKeeper z, String name, long want, String what) {
        Bench.tape(z, name);
        z.watch();
        Bench.due(what, z.watched(), want);
    }

    /** "y = 0 in 3, 4, 8, 9: the fault ZERO": by a variable, and by a constant, which is not folded. */
    private static void zero(long x, boolean xSmall, boolean ySmall) {
        for (String sign : new String[] {"/", "MOD"}) {
            String given = "x : " + (xSmall ? "INT" : "DINT") + "; y : " + (ySmall ? "INT" : "DINT") + "; v : DINT := 5; ";
            String set = "x := " + constant(x, xSmall) + "; ";
            for (String form : new String[] {"x " + sign + " y", "x " + sign + " " + constant(0, ySmall), constant(x, xSmall) + " " + sign + " " + constant(0, ySmall),
                constant(x, xSmall) + " " + sign + " (3 - 3)"}) {
                PlantKeeper z = Bench.loaded("PROGRAM p VAR " + given + "END_VAR " + set + "v := " + form + "; v := 6; END_PROGRAM");
                Bench.due("scan of " + form, z.scan(1), PlantKeeper.ZERO);
                Bench.due("steps", z.count(5), 5);
                value(z, "v", 5, "v stays");
            }
        }
    }

    /** BOOLs: all signs and NOT, from variables and folded. */
    private static void truths() {
        for (int x = 0; x <= 1; x++) {
            for (int y = 0; y <= 1; y++) {
                String[] signs = {"AND", "&", "OR", "XOR", "=", "<>"};
                int[] want = {x & y, x & y, x | y, x ^ y, x == y ? 1 : 0, x != y ? 1 : 0};
                String[] names = {"FALSE", "TRUE"};
                for (int i = 0; i < signs.length; i++) {
                    String head = "PROGRAM p VAR a AT %IX0 : BOOL; b AT %IX1 : BOOL; v : BOOL; END_VAR v := ";
                    PlantKeeper z = Bench.loaded(head + "a " + signs[i] + " b; END_PROGRAM");
                    z.put(0, 0, x);
                    z.put(0, 1, y);
                    Bench.due("scan", z.scan(0), 4);
                    Bench.watched(z, "v", 0, want[i]);
                    PlantKeeper f = Bench.loaded(head + names[x] + " " + signs[i] + " " + names[y] + "; END_PROGRAM");
                    Bench.due("scan", f.scan(0), 2);
                    Bench.watched(f, "v", 0, want[i]);
                }
                PlantKeeper n = Bench.loaded("PROGRAM p VAR a AT %IX0 : BOOL; v, w : BOOL; d : DINT; i : INT; END_VAR v := NOT a; w := NOT " + names[y]
                    + "; d := TO_DINT(a); i := TO_INT(" + names[y] + "); END_PROGRAM");
                n.put(0, 0, x);
                n.scan(0);
                Bench.watched(n, "v", 0, 1 - x);
                Bench.watched(n, "w", 0, 1 - y);
                Bench.watched(n, "d", 2, x);
                Bench.watched(n, "i", 1, y);
            }
        }
    }

    /** LIMIT and SEL, also where the least is above the most. */
    private static void threeOperands() {
        long[] some = {-32768, -1, 0, 1, 32767};
        for (long a : some) {
            for (long b : some) {
                for (long c : some) {
                    long limit = Math.min(Math.max(a, b), c);
                    long chosen = a != 0 ? c : b;
                    String all = constant(a, true) + ", " + constant(b, true) + ", " + constant(c, true);
                    PlantKeeper z = Bench.loaded("PROGRAM p VAR a AT %IW0 : INT; b AT %IW1 : INT; c AT %IW2 : INT; v, w, x, y : INT; END_VAR v := LIMIT(a, b, c); w := SEL(TO_BOOL(a), b, c); "
                        + "x := LIMIT(" + all + "); y := SEL(TO_BOOL(" + all.replaceFirst(",", "),") + "); END_PROGRAM");
                    z.put(3, 0, (int) a);
                    z.put(3, 1, (int) b);
                    z.put(3, 2, (int) c);
                    Bench.due("scan", z.scan(0), 6 + 6 + 2 + 2);
                    Bench.watched(z, "v", 1, (int) limit);
                    Bench.watched(z, "w", 1, (int) chosen);
                    Bench.watched(z, "x", 1, (int) limit);
                    Bench.watched(z, "y", 1, (int) chosen);
                }
            }
        }
    }
}
