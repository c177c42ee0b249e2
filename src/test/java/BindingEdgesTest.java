import java.util.ArrayList;
import java.util.List;
import java.util.Random;

/** Promise 4, GRAMMAR of expressions: which sign binds closer, for each two of them, and from the left on. */
public final class BindingEdgesTest {
    private static final String[] SIGNS = "OR XOR AND & = <> < > <= >= + - * / MOD".split(" ");
    /** "the later named ones binding closer, those named together from the left on" */
    private static final int[] LEVELS = {0, 1, 2, 2, 3, 3, 4, 4, 4, 4, 5, 5, 6, 6, 6};

    public static void main(String[] args) {
        int told = 0;
        for (int first = 0; first < SIGNS.length; first++) {
            for (int second = 0; second < SIGNS.length; second++) {
                boolean seen = false;
                for (int types = 0; types < 8; types++) {
                    seen |= pair(first, second, types);
                }
                told += seen ? 1 : 0;
            }
        }
        Bench.due("pairs that can be told apart: " + told, told >= 215 ? 1 : 0, 1);
        unary();
        longChains();
        Bench.finish("BindingEdgesTest");
    }

    private static String vars(int types) {
        StringBuilder text = new StringBuilder("PROGRAM p VAR ");
        for (int i = 0; i < 3; i++) {
            boolean bool = (types >> i & 1) == 0;
            text.append("xyw".charAt(i)).append(" AT %").append(bool ? "IX" : "IW").append(i).append(" : ").append(bool ? "BOOL" : "INT").append("; ");
        }
        return text + "v AT %MW0 : INT; END_VAR v := TO_INT(";
    }

    /** The fault of an expression and its place in it, and else what it comes to with some operands. */
    private static String meaning(int types, String expression) {
        PlantKeeper x = new PlantKeeper();
        int fault = Bench.load(x, vars(types) + expression + "); END_PROGRAM");
        StringBuilder all = new StringBuilder("fault " + fault + " at " + (x.count(1) - vars(types).length()) + ":");
        for (int n = 0; n < 27 && fault == 0; n++) {
            int[] values = {n % 3, n / 3 % 3, n / 9};
            for (int i = 0; i < 3; i++) {
                boolean bool = (types >> i & 1) == 0;
                x.put(bool ? 0 : 3, i, bool ? values[i] % 2 : values[i] + 2);
            }
            x.scan(0);
            all.append(' ').append(x.get(5, 0));
        }
        return all.toString();
    }

    /** Whether the two ways to read x, y and w with two signs between them differ; the right one is due. */
    private static boolean pair(int first, int second, int types) {
        String left = "(x " + SIGNS[first] + " y) " + SIGNS[second] + " w";
        String right = "x " + SIGNS[first] + " (y " + SIGNS[second] + " w)";
        boolean leftFirst = LEVELS[first] >= LEVELS[second];
        String plain = blanked(leftFirst ? left : right);
        String want = meaning(types, leftFirst ? left : right);
        Bench.dueText("types " + types + " of " + plain, meaning(types, plain), want);
        return !want.equals(meaning(types, leftFirst ? right : left));
    }

    /** The same without brackets, all else where it was. */
    private static String blanked(String expression) {
        return expression.replace('(', ' ').replace(')', ' ');
    }

    /** '-' and NOT stand before one operand alone. */
    private static void unary() {
        for (int types = 0; types < 8; types++) {
            for (String sign : SIGNS) {
                for (String before : new String[] {"-", "NOT ", "- -", "NOT NOT ", "-NOT ", "NOT -"}) {
                    for (String form : new String[] {"(" + before + "x) " + sign + " y", "x " + sign + " (" + before + "y)"}) {
                        Bench.dueText(blanked(form), meaning(types, blanked(form)), meaning(types, form));
                    }
                }
            }
        }
    }

    /** Puts brackets around all parts: the last one of the signs that bind least is the outermost. */
    private static String bracketed(List<String> operands, List<Integer> signs) {
        if (signs.isEmpty()) {
            return operands.get(0);
        }
        int at = 0;
        for (int i = 1; i < signs.size(); i++) {
            at = LEVELS[signs.get(i)] <= LEVELS[signs.get(at)] ? i : at;
        }
        return "(" + bracketed(operands.subList(0, at + 1), signs.subList(0, at)) + " " + SIGNS[signs.get(at)] + " "
            + bracketed(operands.subList(at + 1, operands.size()), signs.subList(at + 1, signs.size())) + ")";
    }

    private static void longChains() {
        Random random = new Random(31);
        int loaded = 0;
        for (int run = 0; run < 3000; run++) {
            int types = random.nextInt(4) == 0 ? random.nextInt(8) : 7;
            List<String> operands = new ArrayList<>();
            List<Integer> signs = new ArrayList<>();
            int n = 3 + random.nextInt(6);
            for (int i = 0; i < n; i++) {
                String operand = random.nextInt(4) == 0 ? String.valueOf(random.nextInt(9)) : "xyw".substring(run % 3, run % 3 + 1);
                operand = random.nextInt(5) == 0 ? "-" + operand : operand;
                operands.add(operand);
                if (i < n - 1) {
                    int sign = random.nextInt(5) == 0 ? random.nextInt(SIGNS.length) : new int[] {0, 1, 2, 3, 10, 11, 12}[random.nextInt(7)];
                    signs.add(sign);
                }
            }
            String brackets = bracketed(operands, signs);
            String want = meaning(types, brackets);
            loaded += want.startsWith("fault 0") ? 1 : 0;
            Bench.dueText(blanked(brackets), meaning(types, blanked(brackets)), want);
        }
        Bench.due("chains that load: " + loaded, loaded > 500 ? 1 : 0, 1);
    }
}
