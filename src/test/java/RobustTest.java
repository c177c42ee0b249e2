import java.util.Random;

/** No call throws or fails to end: the longest texts, texts of random tokens, calls with random numbers. */
public final class RobustTest {
    private static final String[] TOKENS = {"PROGRAM p ", "END_PROGRAM ", "FUNCTION f : INT ", "END_FUNCTION ", "FUNCTION_BLOCK b ",
        "END_FUNCTION_BLOCK ", "VAR ", "END_VAR ", "VAR_INPUT ", "VAR_OUTPUT ", "a : INT; ", "r : ARRAY [0 .. 3] OF DINT; ", "t : TON; ", "z : BOOL; ",
        "IF z THEN ", "ELSE ", "END_IF; ", "CASE a OF ", "END_CASE; ", "FOR a := 1 TO 3 DO ", "END_FOR; ", "EXIT; ", "RETURN; ", "a := ", "r[a] := ", "t(", "IN := z", ");",
        "1 ", "a ", "+ ", "- ", "* ", "/ ", "( ", ") ", "; ", ": ", ", ", "NOT ", "z ", "TRUE ", "LADDER ", "END_LADDER ", "RUNG ", "END_RUNG ", "| ", "%IX0 ", "AT ", "T#5S ", "(* *) ",
        "16#FF ", "t.q ", "< ", "> ", "= ", ".. ", "AND ", "$", "(*"};

    public static void main(String[] args) {
        longest();
        randomTokens();
        randomPrograms();
        randomNumbers();
        Bench.finish("RobustTest");
    }

    private static String fill(String head, String part, String tail) {
        int n = (16384 - head.length() - tail.length()) / part.length();
        return head + part.repeat(n) + tail;
    }

    private static int fault(String text) {
        return Bench.load(new PlantKeeper(), text);
    }

    private static void longest() {
        String head = "PROGRAM p VAR a,x:INT;z:BOOL;END_VAR ";
        Bench.due("choices", fault(fill(head + "CASE a OF ", "1:", "END_CASE;END_PROGRAM")), 50);
        Bench.due("ranges", fault(fill(head + "CASE a OF 1", ",1", ":END_CASE;END_PROGRAM")), 50);
        Bench.due("nothing", fault(fill(head, ";", "END_PROGRAM")), 0);
        Bench.due("blanks", fault(fill("", " ", head + "END_PROGRAM")), 0);
        Bench.due("remarks", fault(fill("", "(**)", head + "END_PROGRAM")), 0);
        Bench.due("a remark without an end", fault(fill("", "(*", "")), 2);
        Bench.due("assignments", fault(fill(head, "a:=x;", "END_PROGRAM")), 50);
        Bench.due("rows", fault(fill(head + "LADDER RUNG ", "z;", "END_RUNG END_LADDER END_PROGRAM")), 38);
        Bench.due("cells", fault(fill(head + "LADDER RUNG z", "|z", "; - - ;END_RUNG END_LADDER END_PROGRAM")), 38);
        Bench.due("rungs", fault(fill(head + "LADDER ", "RUNG(z);END_RUNG ", "END_LADDER END_PROGRAM")), 0);
        Bench.due("brackets", fault(fill(head + "a:=", "(", "")), 7);
        Bench.due("loops", fault(fill(head, "IF z THEN ", "")), 7);
        Bench.due("sums", fault(fill(head + "a:=a", "+a", ";END_PROGRAM")), 7);
        Bench.due("a name", fault(fill("", "a", "")), 3);
        Bench.due("a number", fault(fill(head + "a:=", "9", "")), 4);
        Bench.due("noughts", fault(fill(head + "a:=", "0", "1;END_PROGRAM")), 0);
        StringBuilder names = new StringBuilder("PROGRAM p VAR ");
        String first = "ABCDEFGHIJKLMNOPQRSTUVWXYZ_";
        String next = first + "0123456789";
        int made = 0;
        for (int i = 0; names.length() < 16340; i++) {
            int k = i;
            String name = String.valueOf(first.charAt(k % 27));
            k /= 27;
            name += next.charAt(k % 37);
            k /= 37;
            name += k == 0 ? "" : String.valueOf(next.charAt(k % 37));
            if (!"AT OF IF TO BY DO OR TP SR RS ABS MIN MAX SEL SHL SHR TON TOF CTU CTD VAR INT FOR XOR AND MOD NOT".contains(name)) {
                names.append(made == 0 ? "" : ",").append(name);
                made++;
            }
        }
        Bench.due("variables", fault(names + ":INT;END_VAR END_PROGRAM"), 19);
        StringBuilder blocks = new StringBuilder();
        for (int i = 0; blocks.length() < 16300; i++) {
            blocks.append("FUNCTION ").append(first.charAt(i % 27)).append(i / 27).append(":INT END_FUNCTION ");
        }
        Bench.due("blocks", fault(blocks + "PROGRAM p END_PROGRAM"), 50);
        Bench.due("words as names", fault("FUNCTION AT:INT END_FUNCTION"), 6);
    }

    private static void randomTokens() {
        Random random = new Random(7);
        int[] told = new int[60];
        for (int run = 0; run < 3000; run++) {
            StringBuilder text = new StringBuilder("PROGRAM p VAR a : INT; z : BOOL; r : ARRAY [0 .. 3] OF DINT; t : TON; END_VAR ");
            int tokens = random.nextInt(30);
            for (int i = 0; i < tokens; i++) {
                text.append(TOKENS[random.nextInt(TOKENS.length)]);
            }
            text.append("END_PROGRAM");
            PlantKeeper x = new PlantKeeper();
            int fault = Bench.load(x, text.toString());
            told[fault]++;
            boolean place = fault == 0 ? x.count(1) == PlantKeeper.NONE : x.count(1) >= 0 && x.count(1) <= text.length();
            Bench.due("a place in the text", place ? 1 : 0, 1);
            Bench.due("loaded", x.scan(1) == PlantKeeper.NONE ? 1 : 0, fault != 0 ? 1 : 0);
        }
        Bench.due("faults of reading", told[6] > 100 ? 1 : 0, 1);
    }

    private static String expression(Random random, int depth) {
        if (depth == 0) {
            return random.nextBoolean() ? "v" + random.nextInt(4) : String.valueOf(random.nextInt(40));
        }
        String x = expression(random, depth - 1);
        String y = expression(random, depth - 1);
        switch (random.nextInt(9)) {
            case 0: return "(" + x + " + " + y + ")";
            case 1: return "(" + x + " - " + y + ")";
            case 2: return "(" + x + " * " + y + ")";
            case 3: return "(" + x + " / " + y + ")";
            case 4: return "(" + x + " MOD " + y + ")";
            case 5: return "r[" + x + "]";
            case 6: return "f(" + x + ", " + y + ")";
            case 7: return "SEL(" + x + " < " + y + ", " + x + ", " + y + ")";
            default: return "-" + x;
        }
    }

    private static String statements(Random random, int depth, int loop) {
        StringBuilder text = new StringBuilder();
        for (int i = random.nextInt(4); i > 0; i--) {
            int kind = random.nextInt(depth == 0 ? 3 : 7);
            if (kind <= 1) {
                text.append("v").append(random.nextInt(4)).append(" := ").append(expression(random, random.nextInt(3))).append("; ");
            } else if (kind == 2) {
                text.append("t(IN := v0 > v1, PT := ").append(expression(random, 1)).append("); ");
            } else if (kind == 3) {
                text.append("IF ").append(expression(random, 1)).append(" > 3 THEN ").append(statements(random, depth - 1, loop)).append("ELSE ")
                    .append(statements(random, depth - 1, loop)).append("END_IF; ");
            } else if (kind == 4 && loop < 4) {
                text.append("FOR l").append(loop).append(" := 1 TO ").append(random.nextInt(6)).append(" DO ").append(statements(random, depth - 1, loop + 1))
                    .append("END_FOR; ");
            } else if (kind == 5 && loop > 0) {
                text.append(random.nextBoolean() ? "EXIT; " : "IF t.q THEN RETURN; END_IF; ");
            } else {
                text.append("CASE ").append(expression(random, 1)).append(" OF 1, 3 .. 9: ").append(statements(random, depth - 1, loop)).append("ELSE ")
                    .append(statements(random, depth - 1, loop)).append("END_CASE; ");
            }
        }
        return text.toString();
    }

    /** No scan takes more steps than the bound; the same calls give the same answers. */
    private static void randomPrograms() {
        Random random = new Random(11);
        int scans = 0;
        int stops = 0;
        PlantKeeper y = new PlantKeeper();
        for (int run = 0; run < 1500; run++) {
            String text = "FUNCTION f : DINT VAR_INPUT a, b : DINT; END_VAR IF a > b THEN RETURN; END_IF; f := a / b; END_FUNCTION "
                + "PROGRAM p VAR v0, v1, v2, v3, l0, l1, l2, l3 : DINT; w0 AT %IW0 : INT; r : ARRAY [-50 .. 50] OF DINT := 3; t : TP; END_VAR v0 := w0; "
                + statements(random, 4, 0) + "END_PROGRAM";
            if (text.length() > 10000) {
                continue;
            }
            PlantKeeper x = new PlantKeeper();
            // The other one has loaded and run other texts before.
            y = run % 8 == 0 ? new PlantKeeper() : y;
            int fault = Bench.load(x, text);
            Bench.due("the same fault", Bench.load(y, text), fault);
            if (fault != 0) {
                Bench.due("fault of " + text, fault, 53);
                continue;
            }
            for (int i = 0; i < 5; i++) {
                int word = random.nextInt(60) - 10;
                x.put(3, 0, word);
                y.put(3, 0, word);
                int steps = x.scan(i);
                Bench.due("the same steps", y.scan(i), steps);
                for (String path : new String[] {"v0", "v1", "v2", "v3", "r[3]", "t.et"}) {
                    Bench.tape(x, path);
                    Bench.tape(y, path);
                    Bench.due("the same type", y.watch(), x.watch());
                    Bench.due("the same value of " + path + " in " + text, y.watched(), x.watched());
                }
                Bench.due("steps below the bound", x.count(5) <= x.count(2) ? 1 : 0, 1);
                scans++;
                if (steps < 0) {
                    stops++;
                    x.restart();
                    y.restart();
                }
            }
            Bench.due("scans above the bound", x.count(7), 0);
        }
        Bench.due("scans and stops", scans > 1000 && stops > 100 && stops < scans / 2 ? 1 : 0, 1);
    }

    private static void randomNumbers() {
        Random random = new Random(13);
        for (int run = 0; run < 40; run++) {
            PlantKeeper x = new PlantKeeper();
            Bench.load(x, "PROGRAM p VAR a AT %IW0 : INT; b : INT; END_VAR b := b + 100 / a; END_PROGRAM");
            for (int i = 0; i < 2000; i++) {
                int a = number(random);
                int b = number(random);
                int c = number(random);
                switch (random.nextInt(14)) {
                    case 0: x.feed(a, b, c, a, b); break;
                    case 1: x.end(a); break;
                    case 2: x.put(a, b, c); break;
                    case 3: x.get(a, b); break;
                    case 4: x.safe(a, b, c); break;
                    case 5: x.scan(a); break;
                    case 6: x.restart(); break;
                    case 7: x.station(a); break;
                    case 8: x.byteAt(a); break;
                    case 9: x.count(a); break;
                    case 10: x.watched(); break;
                    case 11: if (i % 100 == 0) { x.watch(); } break;
                    case 12: if (i % 100 == 0) { x.frame(); } break;
                    default: if (i % 500 == 0) { x.load(a); }
                }
            }
        }
    }

    private static int number(Random random) {
        switch (random.nextInt(6)) {
            case 0: return random.nextInt();
            case 1: return random.nextInt(300);
            case 2: return -random.nextInt(3);
            case 3: return Integer.MIN_VALUE;
            case 4: return Integer.MAX_VALUE;
            default: return random.nextInt(6);
        }
    }
}
