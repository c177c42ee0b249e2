import java.util.ArrayList;
import java.util.List;

/** Promise 4, RULES and CELLS: both sides of each rule, faults 10 to 44, and of two broken rules the first one. */
public final class RuleEdgesTest {
    private static final String[] STANDARD = "TON TOF TP CTU CTD R_TRIG F_TRIG SR RS ABS MIN MAX LIMIT SEL SHL SHR TO_INT TO_DINT TO_BOOL".split(" ");
    private static final String[] BLOCKS = {"FUNCTION %s : INT %s END_FUNCTION", "FUNCTION_BLOCK %s %s END_FUNCTION_BLOCK", "PROGRAM %s %s END_PROGRAM"};
    private static final String FB = "FUNCTION_BLOCK fb VAR_INPUT i : INT; END_VAR VAR v : INT; END_VAR VAR_OUTPUT o : INT; END_VAR END_FUNCTION_BLOCK ";
    private static final String FN = "FUNCTION fn : INT VAR_INPUT i : INT; END_VAR END_FUNCTION ";
    private static final String HEAD = FB + FN + "PROGRAM p VAR a, b : INT; d, e : DINT; z, y : BOOL; r : ARRAY [0 .. 3] OF INT; s : ARRAY [0 .. 3] OF BOOL; "
        + "u : ARRAY [0 .. 3] OF DINT; t : TON; k : fb; ix AT %IX0 : BOOL; iw AT %IW0 : INT; qx AT %QX0 : BOOL; qw AT %QW0 : INT; mx AT %MX0 : BOOL; mw AT %MW0 : INT; END_VAR ";
    private static final String[] TYPES = {"BOOL", "INT", "DINT"};
    /** A variable of each type. */
    private static final String[] OF_TYPE = {"z", "a", "d"};

    public static void main(String[] args) {
        programs();
        namesOfBlocks();
        sections();
        namesOfVariables();
        places();
        bounds();
        instances();
        simpleInputs();
        typesAtPlaces();
        constants();
        cellsOfABlock();
        cellsInAll();
        formsOfVariables();
        indexTypes();
        outputs();
        numbersOfExpressions();
        typesOfFunctions();
        typesOfSigns();
        assigned();
        loopNames();
        fitting();
        parameters();
        conditions();
        ranges();
        loops();
        exits();
        rungs();
        inputsOfFunctions();
        firstOfSeveral();
        Bench.finish("RuleEdgesTest");
    }

    private static void body(int fault, String marked) {
        Bench.refused(fault, HEAD + marked + " END_PROGRAM");
    }

    private static void either(boolean good, int fault, String marked) {
        body(good ? 0 : fault, good ? marked.replace("@", "") : marked);
    }

    private static void variables(int fault, String marked) {
        Bench.refused(fault, FB + FN + "PROGRAM p VAR " + marked + " END_VAR END_PROGRAM");
    }

    /** 10: a PROGRAM is before; there is no PROGRAM. */
    private static void programs() {
        Bench.refused(10, "");
        Bench.refused(10, "@ \n");
        Bench.refused(10, "@" + FB);
        Bench.refused(10, "@ " + FN + FB);
        Bench.accepted("PROGRAM p END_PROGRAM");
        Bench.accepted(FN + FB + "PROGRAM p END_PROGRAM");
        for (String block : BLOCKS) {
            Bench.refused(10, "PROGRAM p END_PROGRAM @" + block.formatted("q", ""));
            // 10 before 11, and before all that is in the block.
            Bench.refused(10, "PROGRAM p END_PROGRAM @" + block.formatted("p", "VAR abs : abs; END_VAR x := 1;"));
        }
    }

    /** 11: the name is that of a standard block or function, or of a block before. */
    private static void namesOfBlocks() {
        for (String block : BLOCKS) {
            String behind = block.startsWith("PROGRAM") ? "" : " PROGRAM main END_PROGRAM";
            for (String name : STANDARD) {
                Bench.refused(11, "@" + block.formatted(name, "x := 1;") + behind);
                Bench.refused(11, "@" + block.formatted(name.toLowerCase(), "") + behind);
                Bench.accepted(block.formatted(name + "_", "") + behind);
            }
            for (String before : new String[] {"fb", "Fn", "FB"}) {
                Bench.refused(11, FB + FN + "@" + block.formatted(before, "") + behind);
            }
            for (String free : "in pt q et cu r pv cv cd ld clk s1 q1 s r1 i v o".split(" ")) {
                Bench.accepted(FB + FN + block.formatted(free, "") + behind);
            }
        }
    }

    /** 13: not VAR in a PROGRAM; VAR_OUTPUT in a FUNCTION. */
    private static void sections() {
        String[] words = {"VAR", "VAR_INPUT", "VAR_OUTPUT"};
        boolean[][] good = {{true, true, false}, {true, true, true}, {true, false, false}};
        for (int block = 0; block < 3; block++) {
            String behind = block == 2 ? "" : " PROGRAM main END_PROGRAM";
            for (int word = 0; word < 3; word++) {
                boolean fine = good[block][word];
                Bench.refused(fine ? 0 : 13, BLOCKS[block].formatted("n", "VAR x : INT; END_VAR " + (fine ? "" : "@") + words[word] + " END_VAR") + behind);
                Bench.refused(fine ? 0 : 13, BLOCKS[block].formatted("n", (fine ? "" : "@") + words[word] + " x : INT; END_VAR") + behind);
            }
        }
    }

    /** 12: that of a variable of this block before, of this block or one before, or of a standard block or function. */
    private static void namesOfVariables() {
        for (String name : STANDARD) {
            variables(12, "@" + name + " : INT;");
            variables(0, name + "1 : INT;");
        }
        variables(12, "x, @x : INT;");
        variables(12, "x : INT; y, @X : BOOL;");
        variables(12, "x : TON; @x : TON;");
        variables(12, "x : INT; END_VAR VAR @x : INT;");
        variables(12, "x AT %IX0 : BOOL; @x AT %IX0 : BOOL;");
        variables(12, "@p : INT;");
        variables(12, "@fb : INT;");
        variables(12, "@fn : INT;");
        variables(0, "p1, i, v, o, main : INT;");
        Bench.refused(12, "FUNCTION f : INT VAR_INPUT x : INT; END_VAR VAR @x : INT; END_VAR END_FUNCTION");
        Bench.refused(12, "FUNCTION f : INT VAR_INPUT @f : INT; END_VAR END_FUNCTION");
        Bench.refused(12, "FUNCTION_BLOCK f VAR_OUTPUT @f : INT; END_VAR END_FUNCTION_BLOCK");
        // Names of other blocks' variables, and of blocks behind, are free.
        Bench.accepted("FUNCTION f : INT VAR x, g, p : INT; END_VAR END_FUNCTION FUNCTION_BLOCK g VAR x, p : INT; END_VAR END_FUNCTION_BLOCK PROGRAM p VAR x : INT; END_VAR END_PROGRAM");
    }

    /** 14: not in a PROGRAM; or more than one name is before it; or it was in a declaration before. */
    private static void places() {
        String[] areas = {"IX", "QX", "MX", "IW", "QW", "MW"};
        StringBuilder all = new StringBuilder();
        for (String area : areas) {
            String type = area.endsWith("X") ? "BOOL" : "INT";
            int last = area.endsWith("X") ? 255 : 63;
            for (int i : new int[] {0, 1, last}) {
                String place = "%" + area + i;
                variables(0, "x AT " + place + " : " + type + ";");
                variables(14, "x, y AT @" + place + " : " + type + ";");
                variables(14, "x, y, w AT @" + place + " : " + type + ";");
                variables(14, "x AT " + place + " : " + type + "; y AT @" + place.toLowerCase() + " : " + type + ";");
                variables(14, "x AT " + place + " : " + type + "; w : INT; END_VAR VAR y AT @%" + area + "00" + i + " : " + type + ";");
                Bench.refused(14, "FUNCTION f : INT VAR x AT @" + place + " : " + type + "; END_VAR END_FUNCTION");
                Bench.refused(14, "FUNCTION_BLOCK f VAR x AT @" + place + " : " + type + "; END_VAR END_FUNCTION_BLOCK");
                all.append("n").append(area).append(i).append(" AT ").append(place).append(" : ").append(type).append("; ");
            }
        }
        variables(0, all.toString());
        // A place that an earlier text had is free again.
        PlantKeeper x = new PlantKeeper();
        for (int i = 0; i < 3; i++) {
            Bench.due("load", Bench.load(x, "PROGRAM p VAR x AT %MX3 : BOOL; END_VAR END_PROGRAM"), 0);
        }
    }

    /** 16: in a FUNCTION; a constant is 31; the first one is greater; more than 256 elements. */
    private static void bounds() {
        String[][] good = {{"0", "0"}, {"0", "255"}, {"1", "256"}, {"-128", "127"}, {"-255", "0"}, {"-1", "-1"}, {"-2", "-1"}, {"-2147483647", "-2147483392"}, {"2147483392", "2147483647"},
            {"2147483647", "2147483647"}, {"-2147483647", "-2147483647"}, {"16#10", "T#1S"}};
        for (String[] row : good) {
            boolean far = row[1].equals("T#1S");
            variables(far ? 16 : 0, "x : " + (far ? "@" : "") + "ARRAY [" + row[0] + " .. " + row[1] + "] OF INT;");
        }
        String[][] wrong = {{"1", "0"}, {"0", "-1"}, {"-1", "-2"}, {"0", "256"}, {"1", "257"}, {"-128", "128"}, {"-256", "0"}, {"-2147483647", "-2147483391"}, {"2147483391", "2147483647"},
            {"-2147483647", "2147483647"}, {"2147483647", "-2147483647"}, {"2147483647", "2147483646"}, {"TRUE", "1"}, {"0", "TRUE"}, {"FALSE", "TRUE"}, {"FALSE", "5"}};
        for (String[] row : wrong) {
            for (String type : TYPES) {
                variables(16, "x : @ARRAY [" + row[0] + " .. " + row[1] + "] OF " + type + ";");
            }
        }
        Bench.refused(16, "FUNCTION f : INT VAR x : @ARRAY [0 .. 0] OF INT; END_VAR END_FUNCTION");
        Bench.refused(16, "FUNCTION f : INT VAR_INPUT x : @ARRAY [0 .. 0] OF INT; END_VAR END_FUNCTION");
        Bench.accepted("FUNCTION_BLOCK f VAR x : ARRAY [0 .. 0] OF INT; END_VAR END_FUNCTION_BLOCK PROGRAM p END_PROGRAM");
    }

    /** 17: no standard block, and no FUNCTION_BLOCK before; or in a FUNCTION. */
    private static void instances() {
        for (int i = 0; i < STANDARD.length; i++) {
            boolean block = i < 9;
            variables(block ? 0 : 17, "x : " + (block ? "" : "@") + STANDARD[i] + ";");
            Bench.refused(17, "FUNCTION f : INT VAR x : @" + STANDARD[i] + "; END_VAR END_FUNCTION");
            if (block) {
                Bench.accepted("FUNCTION_BLOCK f VAR x, w : " + STANDARD[i].toLowerCase() + "; END_VAR END_FUNCTION_BLOCK PROGRAM p END_PROGRAM");
            }
        }
        variables(0, "x, y : Fb;");
        for (String other : new String[] {"fn", "p", "x", "nothing", "v"}) {
            variables(17, "x : @" + other + ";");
        }
        Bench.refused(17, FB + "FUNCTION f : INT VAR x : @fb; END_VAR END_FUNCTION");
        Bench.refused(17, "FUNCTION_BLOCK f VAR x : @f; END_VAR END_FUNCTION_BLOCK");
        Bench.refused(17, "FUNCTION_BLOCK f VAR x : @g; END_VAR END_FUNCTION_BLOCK FUNCTION_BLOCK g END_FUNCTION_BLOCK PROGRAM p END_PROGRAM");
        Bench.accepted("FUNCTION_BLOCK g END_FUNCTION_BLOCK FUNCTION_BLOCK f VAR x : g; END_VAR END_FUNCTION_BLOCK PROGRAM p VAR x : f; y : g; END_VAR END_PROGRAM");
    }

    /** 43: in VAR_INPUT or VAR_OUTPUT, and not simple. */
    private static void simpleInputs() {
        for (String word : new String[] {"VAR", "VAR_INPUT", "VAR_OUTPUT"}) {
            for (String type : new String[] {"BOOL", "INT", "DINT", "ARRAY [0 .. 1] OF INT", "TON", "fb"}) {
                boolean good = word.equals("VAR") || type.endsWith("INT") && !type.startsWith("ARRAY") || type.equals("BOOL");
                Bench.refused(good ? 0 : 43, FB + "FUNCTION_BLOCK f " + word + " y : INT; " + (good ? "" : "@") + "x, w : " + type + "; END_VAR END_FUNCTION_BLOCK PROGRAM p END_PROGRAM");
            }
        }
    }

    /** 15: with 7, it is not BOOL for X, INT for W. */
    private static void typesAtPlaces() {
        for (String area : new String[] {"IX", "QX", "MX", "IW", "QW", "MW"}) {
            for (String type : new String[] {"BOOL", "INT", "DINT", "ARRAY [0 .. 0] OF BOOL", "ARRAY [0 .. 0] OF INT", "TON", "R_TRIG", "fb"}) {
                boolean good = area.endsWith("X") ? type.equals("BOOL") : type.equals("INT");
                variables(good ? 0 : 15, (good ? "" : "@") + "x AT %" + area + "5 : " + type + ";");
            }
        }
    }

    /** 18, both ways for each type. */
    private static void constants() {
        String[] places = {"", " AT %IX1", " AT %QX1", " AT %MX1", " AT %IW1", " AT %QW1", " AT %MW1"};
        String[] all = {"TRUE", "FALSE", "0", "1", "-1", "32767", "-32768", "32768", "-32769", "2147483647", "-2147483647"};
        for (String constant : all) {
            boolean truth = constant.equals("TRUE") || constant.equals("FALSE");
            boolean small = !truth && Long.parseLong(constant) >= -32768 && Long.parseLong(constant) <= 32767;
            for (String place : places) {
                String[] types = place.isEmpty() ? new String[] {"BOOL", "INT", "DINT"} : new String[] {place.contains("X") ? "BOOL" : "INT"};
                for (String type : types) {
                    boolean fits = type.equals("BOOL") ? truth : type.equals("INT") ? small : !truth;
                    boolean good = fits && !place.contains("I");
                    variables(good ? 0 : 18, (good ? "" : "@") + "x" + place + " : " + type + " := " + constant + ";");
                    if (place.isEmpty()) {
                        variables(good ? 0 : 18, (good ? "" : "@") + "x, y : ARRAY [3 .. 5] OF " + type + " := " + constant + ";");
                        String fb = "FUNCTION_BLOCK f VAR_INPUT " + (good ? "" : "@") + "x : " + type + " := " + constant + "; END_VAR END_FUNCTION_BLOCK PROGRAM p END_PROGRAM";
                        Bench.refused(good ? 0 : 18, fb);
                    }
                }
            }
            variables(18, "@x : TON := " + constant + ";");
            variables(18, "@x : fb := " + constant + ";");
        }
    }

    /** So many different names, parted by commas. */
    private static String names(int n, String first) {
        StringBuilder all = new StringBuilder();
        for (int i = 0; i < n; i++) {
            all.append(i == 0 ? "" : ",").append(first).append(Integer.toString(i, 36));
        }
        return all.toString();
    }

    private static String arrays(int n) {
        return names(n, "q") + " : ARRAY [1 .. 256] OF INT; ";
    }

    /** 19: the block's cells are more than 4,096 behind it. */
    private static void cellsOfABlock() {
        String fb = "FUNCTION_BLOCK f VAR %s END_VAR %s END_FUNCTION_BLOCK ";
        String end = "PROGRAM p END_PROGRAM";
        Bench.accepted(fb.formatted(arrays(16), "") + end);
        Bench.accepted(fb.formatted(arrays(15) + "x : ARRAY [1 .. 255] OF INT; w : BOOL;", "") + end);
        Bench.refused(19, fb.formatted(arrays(16) + "@x : BOOL;", "") + end);
        Bench.refused(19, fb.formatted("@" + arrays(17), "") + end);
        Bench.refused(19, fb.formatted(arrays(15) + "x : ARRAY [1 .. 255] OF INT; @w, v : BOOL; u : nothing;", "") + end);
        Bench.accepted(fb.formatted(arrays(15) + names(42, "t_") + " : TON; x : R_TRIG; w : BOOL;", "") + end);
        Bench.refused(19, fb.formatted(arrays(15) + names(42, "t_") + " : TON; x : R_TRIG; w : BOOL; @v : BOOL;", "") + end);
        Bench.refused(19, fb.formatted(arrays(15) + "@" + names(43, "t_") + " : TON;", "") + end);
        // The body's own cells are not looked at, but those of an instance are all its block's.
        Bench.accepted(fb.formatted(arrays(16), "LADDER RUNG -; END_RUNG END_LADDER") + end);
        Bench.accepted(fb.formatted(arrays(15), "CASE q0[1] OF END_CASE;") + "FUNCTION_BLOCK g VAR x : f; w : ARRAY [1 .. 255] OF INT; END_VAR END_FUNCTION_BLOCK " + end);
        Bench.refused(19, fb.formatted(arrays(15), "CASE q0[1] OF END_CASE;") + "FUNCTION_BLOCK g VAR x : f; @w : ARRAY [1 .. 256] OF INT; END_VAR END_FUNCTION_BLOCK " + end);
        Bench.refused(19, fb.formatted(arrays(16), "LADDER END_LADDER") + "FUNCTION_BLOCK g VAR @x : f; END_VAR END_FUNCTION_BLOCK " + end);
        Bench.accepted(fb.formatted(arrays(16), "") + "FUNCTION_BLOCK g VAR x : f; END_VAR END_FUNCTION_BLOCK " + end);
        Bench.refused(19, fb.formatted(arrays(16), "") + "FUNCTION_BLOCK g VAR @x, y : f; END_VAR END_FUNCTION_BLOCK " + end);
        Bench.refused(19, fb.formatted(arrays(16), "") + "PROGRAM p VAR @x : f; END_VAR END_PROGRAM");
        // Of a PROGRAM 960 cells come first; variables with a place are among them.
        String program = "PROGRAM p VAR " + arrays(12) + "x : ARRAY [1 .. 63] OF INT; %s END_VAR END_PROGRAM";
        Bench.accepted(program.formatted("w : INT;"));
        Bench.accepted(program.formatted("w : INT; v AT %MW63 : INT; u AT %IX0 : BOOL;"));
        Bench.refused(19, program.formatted("w : INT; v AT %MW63 : INT; @u : BOOL;"));
        Bench.refused(19, program.formatted("@w, v : INT;"));
        // Of a FUNCTION its own name comes first: with 4,095 names it is too long (50), with 4,096 it breaks the rule.
        String function = "FUNCTION f:INT VAR %s%s:INT;END_VAR END_FUNCTION PROGRAM p END_PROGRAM";
        String most = String.join(",", shortNames(4095));
        Bench.refused(50, function.formatted("", most));
        Bench.refused(19, function.formatted("@", String.join(",", shortNames(4096))));
    }

    /** Names that are as short as they can be, and neither words nor names of something else. */
    private static List<String> shortNames(int n) {
        String first = "ABCDEGHIJKLMNOPQRSTUVWXYZ_";
        String next = first + "F0123456789";
        String known = " AT OF IF TO BY DO OR TP SR RS ABS MIN MAX SEL SHL SHR TON TOF CTU CTD VAR INT FOR XOR AND MOD NOT END ";
        List<String> all = new ArrayList<>();
        for (int i = 0; i < 26; i++) {
            all.add(first.substring(i, i + 1));
        }
        for (int at = 0; all.size() < 5000; at++) {
            for (int i = 0; i < next.length(); i++) {
                all.add(all.get(at) + next.charAt(i));
            }
        }
        all.removeIf(name -> known.contains(" " + name + " "));
        return all.subList(0, n);
    }

    /** 42: the cells of all FUNCTIONS and the PROGRAM are more than 8,192. */
    private static void cellsInAll() {
        // The PROGRAM has 4,096 and 156; each of 14 FUNCTIONS its own name and 156; one has 1,586 names more.
        StringBuilder functions = new StringBuilder();
        for (int i = 0; i < 14; i++) {
            functions.append("FUNCTION f").append(i).append(":INT LADDER END_LADDER END_FUNCTION ");
        }
        String last = "FUNCTION g:INT VAR %s:INT;END_VAR LADDER END_LADDER END_FUNCTION ";
        String program = "PROGRAM p VAR " + arrays(12) + "x : ARRAY [1 .. 64] OF INT; END_VAR LADDER %s END_LADDER END_PROGRAM";
        List<String> names = shortNames(1700);
        names.remove("G");
        int room = 8192 - (4096 + 156) - 15 * 157;
        PlantKeeper x = Bench.loaded(functions + last.formatted(String.join(",", names.subList(0, room))) + program.formatted(""));
        Bench.due("cells", x.count(4), 8192);
        Bench.due("scan", x.scan(1), 0);
        Bench.refused(42, "@ " + functions + last.formatted(String.join(",", names.subList(0, room + 1))) + program.formatted(""));
        // Cells of bodies count here.
        String edges = "PROGRAM p VAR " + arrays(12) + "x : ARRAY [1 .. 63] OF INT; z : BOOL; END_VAR LADDER RUNG >z; END_RUNG END_LADDER END_PROGRAM";
        PlantKeeper y = Bench.loaded(functions + last.formatted(String.join(",", names.subList(0, room - 1))) + edges);
        Bench.due("cells", y.count(4), 8192);
        Bench.refused(42, "@ " + functions + last.formatted(String.join(",", names.subList(0, room))) + edges);
        // FUNCTION_BLOCKS without an instance have none.
        String fb = "FUNCTION_BLOCK f VAR " + arrays(16) + " END_VAR END_FUNCTION_BLOCK ";
        Bench.accepted(fb + fb.replace("BLOCK f", "BLOCK g") + fb.replace("BLOCK f", "BLOCK h") + "PROGRAM p END_PROGRAM");
    }

    /** 20: no variable of this block; 21: not simple (6, 19), no array (32), no instance (13, 33). */
    private static void formsOfVariables() {
        String[] uses = {"%s := 1;", "a := %s;", "a := a + %s;", "r[%s] := 1;", "a := r[%s];", "a := ABS(%s);", "t(PT := %s);", "IF %s = 1 THEN END_IF;", "CASE %s OF END_CASE;"};
        for (String use : uses) {
            form(use, "a", "@%s", "r t k", "nothing p fb fn ton abs i v o in");
        }
        form("%s[0] := 1;", "r", "@%s", "a t k", "nothing p fb fn ton abs i v o in");
        form("a := %s[0];", "r", "@%s", "a t k", "nothing p fb fn ton abs i v o in");
        form("%s();", "t", "@%s", "a r", "nothing p fb fn ton abs i v o in");
        form("d := %s.ET;", "t", "@%s", "a r", "nothing p fb fn ton abs i v o in");
        for (String name : "a r t k nothing p fb fn ton".split(" ")) {
            int fault = name.equals("a") ? 0 : "r t k".contains(name) ? 21 : 20;
            body(fault, (fault == 0 ? "" : "@") + "FOR " + name + " := 1 TO 2 DO END_FOR;");
        }
        for (String name : "z s t k nothing p fb".split(" ")) {
            int fault = name.equals("z") ? 0 : "s t k".contains(name) ? 21 : 20;
            String mark = fault == 0 ? "" : "@";
            body(fault, "LADDER RUNG " + mark + name + "; END_RUNG END_LADDER");
            body(fault, "LADDER RUNG /" + mark + name + "; END_RUNG END_LADDER");
            body(fault, "LADDER RUNG (" + mark + name + "); END_RUNG END_LADDER");
            body(fault, "LADDER RUNG (+" + mark + name + "); END_RUNG END_LADDER");
        }
        for (String name : "t z s nothing".split(" ")) {
            int fault = name.equals("t") ? 0 : name.equals("nothing") ? 20 : 21;
            body(fault, "LADDER RUNG >" + (fault == 0 ? "" : "@") + name + ".Q; END_RUNG END_LADDER");
        }
        // Variables of another block, and the PROGRAM's in another one, are none.
        Bench.refused(20, "FUNCTION_BLOCK f VAR v : INT; END_VAR END_FUNCTION_BLOCK PROGRAM p VAR w : INT; END_VAR w := @v; END_PROGRAM");
        Bench.accepted("FUNCTION_BLOCK f VAR v : INT; END_VAR v := v; END_FUNCTION_BLOCK PROGRAM p VAR v : BOOL; END_VAR v := TRUE; END_PROGRAM");
        // A FUNCTION's own name is a simple variable of it.
        Bench.accepted("FUNCTION f : INT f := f + 1; END_FUNCTION PROGRAM p END_PROGRAM");
        Bench.refused(21, "FUNCTION f : INT @f[0] := 1; END_FUNCTION PROGRAM p END_PROGRAM");
        Bench.refused(21, "FUNCTION f : INT @f(); END_FUNCTION PROGRAM p END_PROGRAM");
        Bench.refused(20, "FUNCTION_BLOCK f @f := 1; END_FUNCTION_BLOCK PROGRAM p END_PROGRAM");
        Bench.refused(20, "FUNCTION f : INT END_FUNCTION FUNCTION g : INT g := @f; END_FUNCTION PROGRAM p END_PROGRAM");
    }

    private static void form(String use, String good, String marked, String ofAnotherForm, String unknown) {
        body(0, use.formatted(good));
        for (String name : ofAnotherForm.split(" ")) {
            body(21, use.formatted(marked.formatted(name)));
        }
        for (String name : unknown.split(" ")) {
            body(20, use.formatted(marked.formatted(name)));
        }
    }

    /** 22: the index is no number. */
    private static void indexTypes() {
        for (int type = 0; type < 3; type++) {
            either(type != 0, 22, "@r[" + OF_TYPE[type] + "] := 1;");
            either(type != 0, 22, "a := @r[" + OF_TYPE[type] + "];");
            either(type != 0, 22, "z := @s[" + OF_TYPE[type] + "];");
        }
        body(22, "a := @r[TRUE];");
        body(0, "a := r[-5]; a := r[99999]; z := s[0]; d := u[1];");
    }

    /** 23: the 6 in it is no output of the instance. */
    private static void outputs() {
        String[][] rows = {{"t", "Q ET", "IN PT CV Q1 M L nothing t"}, {"k", "O", "I V Q fb k"}};
        for (String[] row : rows) {
            for (String name : row[1].split(" ")) {
                body(0, "z := TO_INT(" + row[0] + "." + name + ") = 1;");
                body(0, "z := TO_INT(" + row[0] + "." + name.toLowerCase() + ") = 1;");
            }
            for (String name : row[2].split(" ")) {
                body(23, "z := TO_INT(@" + row[0] + "." + name + ") = 1;");
                body(23, "LADDER RUNG @" + row[0] + "." + name + "; END_RUNG END_LADDER");
            }
        }
    }

    /** 24, and 25: one fewer, as many, one more. */
    private static void numbersOfExpressions() {
        String[] functions = "ABS TO_INT TO_DINT TO_BOOL MIN MAX SHL SHR LIMIT SEL".split(" ");
        int[] wanted = {1, 1, 1, 1, 2, 2, 2, 2, 3, 3};
        for (int f = 0; f < functions.length; f++) {
            for (int n = 0; n <= 5; n++) {
                StringBuilder text = new StringBuilder("z := TO_INT(").append(n == wanted[f] ? "" : "@").append(functions[f]).append("(");
                for (int i = 0; i < n; i++) {
                    text.append(i == 0 ? functions[f].equals("SEL") ? "z" : "a" : ", a");
                }
                body(n == wanted[f] ? 0 : 25, text + ")) = 1;");
            }
        }
        for (int inputs = 0; inputs <= 8; inputs++) {
            String function = "FUNCTION f : INT " + (inputs == 0 ? "" : "VAR_INPUT " + names(inputs, "n") + " : INT; END_VAR ") + "VAR w : INT; END_VAR END_FUNCTION ";
            for (int n = Math.max(0, inputs - 1); n <= inputs + 1; n++) {
                String all = "1, ".repeat(n);
                String given = n == 0 ? "" : all.substring(0, all.length() - 2);
                Bench.refused(n == inputs ? 0 : 25, function + "PROGRAM p VAR a : INT; END_VAR a := " + (n == inputs ? "" : "@") + "f(" + given + "); END_PROGRAM");
            }
        }
        for (String name : "nothing fb p t a r k ton ctu i".split(" ")) {
            body(24, "a := @" + name + "(1);");
            body(24, "a := @" + name + "();");
        }
        // 24 before 25 and 26.
        body(24, "a := @nothing(z, z, z, z);");
        body(25, "a := @ABS(z, z);");
        body(26, "a := @ABS(z);");
    }

    /** What a standard function gives for some types; -1 is wrong. */
    private static int gives(String function, int[] t) {
        int widest = 0;
        boolean numbers = true;
        for (int type : t) {
            widest = Math.max(widest, type);
            numbers &= type != 0;
        }
        switch (function) {
            case "TO_INT": return 1;
            case "TO_DINT": return 2;
            case "TO_BOOL": return t[0] == 0 ? -1 : 0;
            case "SHL": case "SHR": return numbers ? t[0] : -1;
            case "SEL": return t[0] != 0 ? -1 : t[1] == 0 && t[2] == 0 ? 0 : t[1] != 0 && t[2] != 0 ? Math.max(t[1], t[2]) : -1;
            default: return numbers ? widest : -1;
        }
    }

    /** An expression is due to be of a type, as it fits those that are told, or to break a rule. */
    private static void typed(String marked, int type, int fault) {
        String plain = marked.replace("@", "");
        if (type < 0) {
            body(fault, "z := TO_INT(" + marked + ") = 1;");
            return;
        }
        for (int target = 0; target < 3; target++) {
            boolean fits = type == target || type == 1 && target == 2;
            body(fits ? 0 : 31, OF_TYPE[target] + (fits ? " := " : " @:= ") + plain + ";");
        }
    }

    /** 26: all types in all places of all standard functions, and of a FUNCTION. */
    private static void typesOfFunctions() {
        String[] functions = "ABS TO_INT TO_DINT TO_BOOL MIN MAX SHL SHR LIMIT SEL".split(" ");
        int[] wanted = {1, 1, 1, 1, 2, 2, 2, 2, 3, 3};
        String[] constants = {"TRUE", "32767", "32768"};
        for (int f = 0; f < functions.length; f++) {
            int rows = wanted[f] == 1 ? 3 : wanted[f] == 2 ? 9 : 27;
            for (int row = 0; row < rows; row++) {
                int[] types = new int[wanted[f]];
                StringBuilder text = new StringBuilder("@" + functions[f] + "(");
                StringBuilder folded = new StringBuilder("@" + functions[f] + "(");
                for (int i = 0, rest = row; i < types.length; i++, rest /= 3) {
                    types[i] = rest % 3;
                    text.append(i == 0 ? "" : ", ").append(OF_TYPE[types[i]]);
                    folded.append(i == 0 ? "" : ", ").append(constants[types[i]]);
                }
                typed(text + ")", gives(functions[f], types), 26);
                typed(folded + ")", gives(functions[f], types), 26);
            }
        }
        for (int input = 0; input < 3; input++) {
            for (int output = 0; output < 3; output++) {
                String head = "FUNCTION f : " + TYPES[output] + " VAR_INPUT w : INT; n : " + TYPES[input] + "; END_VAR END_FUNCTION PROGRAM p VAR z : BOOL; a : INT; d : DINT; END_VAR ";
                for (int type = 0; type < 3; type++) {
                    boolean fits = type == input || type == 1 && input == 2;
                    Bench.refused(fits ? 0 : 26, head + OF_TYPE[output] + " := " + (fits ? "" : "@") + "f(1, " + OF_TYPE[type] + "); END_PROGRAM");
                    boolean given = type == output || output == 1 && type == 2;
                    Bench.refused(given ? 0 : 31, head + OF_TYPE[type] + (given ? " := " : " @:= ") + "f(1, " + OF_TYPE[input] + "); END_PROGRAM");
                }
            }
        }
    }

    /** 27 and 28: all types on both sides of all signs. */
    private static void typesOfSigns() {
        String[] signs = "OR XOR AND & = <> < > <= >= + - * / MOD".split(" ");
        String[] constants = {"FALSE", "7", "99999"};
        for (int s = 0; s < signs.length; s++) {
            for (int x = 0; x < 3; x++) {
                for (int y = 0; y < 3; y++) {
                    boolean numbers = x != 0 && y != 0;
                    boolean truths = x == 0 && y == 0 && s < 6;
                    boolean compares = s >= 4 && s <= 9;
                    int type = !numbers && !truths ? -1 : compares ? 0 : Math.max(x, y);
                    typed(OF_TYPE[x] + " @" + signs[s] + " " + OF_TYPE[y], type, 27);
                    typed(constants[x] + " @" + signs[s] + " " + constants[y], type, 27);
                }
            }
        }
        for (int x = 0; x < 3; x++) {
            typed("@-" + OF_TYPE[x], x == 0 ? -1 : x, 28);
            typed("@-" + constants[x], x == 0 ? -1 : x, 28);
            typed("@NOT " + OF_TYPE[x], x, 28);
            typed("@NOT " + constants[x], x, 28);
        }
        // 30: INT up to 32,767, else DINT.
        typed("32767", 1, 0);
        typed("32768", 2, 0);
        typed("-32767", 1, 0);
        typed("-32768", 2, 0);
        typed("0", 1, 0);
        typed("2147483647", 2, 0);
        typed("TRUE", 0, 0);
        typed("16#7FFF", 1, 0);
        typed("16#8000", 2, 0);
        typed("T#32S", 1, 0);
        typed("T#33S", 2, 0);
    }

    /** 29: a VAR_INPUT; a variable at IX or IW. */
    private static void assigned() {
        body(29, "ix @:= z;");
        body(29, "iw @:= a;");
        body(0, "qx := z; qw := a; mx := z; mw := a; z := ix; a := iw;");
        body(29, "@FOR iw := 1 TO 2 DO END_FOR;");
        body(0, "FOR qw := 1 TO 2 DO END_FOR; FOR mw := 1 TO 2 DO END_FOR;");
        body(29, "LADDER RUNG @(ix); END_RUNG END_LADDER");
        body(0, "LADDER RUNG (qx); (/mx); END_RUNG END_LADDER");
        for (int last : new int[] {0, 1, 254, 255}) {
            Bench.refused(29, "PROGRAM p VAR x AT %IX" + last + " : BOOL; END_VAR x @:= TRUE; END_PROGRAM");
            Bench.accepted("PROGRAM p VAR x AT %QX" + last + " : BOOL; w AT %MX" + last + " : BOOL; END_VAR x := TRUE; w := TRUE; END_PROGRAM");
        }
        for (int last : new int[] {0, 1, 62, 63}) {
            Bench.refused(29, "PROGRAM p VAR x AT %IW" + last + " : INT; END_VAR x @:= 1; END_PROGRAM");
            Bench.accepted("PROGRAM p VAR x AT %QW" + last + " : INT; w AT %MW" + last + " : INT; END_VAR x := 1; w := 1; END_PROGRAM");
        }
        for (String word : new String[] {"VAR", "VAR_INPUT", "VAR_OUTPUT"}) {
            boolean good = !word.equals("VAR_INPUT");
            String head = "FUNCTION_BLOCK f " + word + " x : INT; b : BOOL; END_VAR ";
            String tail = " END_FUNCTION_BLOCK PROGRAM p END_PROGRAM";
            Bench.refused(good ? 0 : 29, head + "x " + (good ? "" : "@") + ":= 1;" + tail);
            Bench.refused(good ? 0 : 29, head + (good ? "" : "@") + "FOR x := 1 TO 2 DO END_FOR;" + tail);
            Bench.refused(good ? 0 : 29, head + "LADDER RUNG " + (good ? "" : "@") + "(b); END_RUNG END_LADDER" + tail);
        }
        Bench.refused(29, "FUNCTION f : INT VAR_INPUT x : INT; END_VAR x @:= 1; END_FUNCTION PROGRAM p END_PROGRAM");
        Bench.accepted("FUNCTION f : INT VAR x : INT; END_VAR x := 1; f := 2; FOR f := 1 TO 2 DO END_FOR; END_FUNCTION PROGRAM p END_PROGRAM");
        // The first cells of another block are no inputs.
        Bench.accepted("FUNCTION_BLOCK f VAR x, y : BOOL; END_VAR x := y; y := x; END_FUNCTION_BLOCK PROGRAM p END_PROGRAM");
    }

    /** 30: the name of a 19 in which it stands. */
    private static void loopNames() {
        body(30, "FOR a := 1 TO 2 DO a @:= 1; END_FOR;");
        body(0, "FOR a := 1 TO 2 DO b := 1; END_FOR; a := 1;");
        body(0, "a := 1; FOR a := 1 TO 2 DO END_FOR;");
        body(30, "FOR a := 1 TO 2 DO FOR b := 1 TO 2 DO a @:= 1; END_FOR; END_FOR;");
        body(30, "FOR a := 1 TO 2 DO FOR b := 1 TO 2 DO b @:= 1; END_FOR; END_FOR;");
        body(0, "FOR a := 1 TO 2 DO FOR b := 1 TO 2 DO END_FOR; b := 1; END_FOR; a := 1; b := 1;");
        body(30, "FOR a := 1 TO 2 DO FOR b := 1 TO 2 DO END_FOR; a @:= 1; END_FOR;");
        body(30, "FOR a := 1 TO 2 DO @FOR a := 1 TO 2 DO END_FOR; END_FOR;");
        body(30, "FOR a := 1 TO 2 DO FOR b := 1 TO 2 DO @FOR A := 1 TO 2 DO END_FOR; END_FOR; END_FOR;");
        body(0, "FOR a := 1 TO 2 DO FOR b := 1 TO 2 DO END_FOR; FOR b := 1 TO 2 DO END_FOR; END_FOR;");
        body(30, "FOR a := 1 TO 2 DO IF z THEN CASE b OF 1: a @:= 1; END_CASE; END_IF; END_FOR;");
        body(0, "FOR a := 1 TO 2 DO r[a] := a; t(PT := a); d := a; END_FOR;");
        // The names are judged before the 19 whose name it is: an array's is one, too.
        body(30, "FOR r := 1 TO 2 DO r[0] @:= 1; END_FOR;");
        body(21, "@FOR r := 1 TO 2 DO u[0] := 1; END_FOR;");
        // A loop of another block's, or of a text before, is none.
        Bench.accepted("FUNCTION f : INT VAR n : INT; END_VAR FOR n := 1 TO 2 DO END_FOR; n := 1; END_FUNCTION PROGRAM p VAR n : INT; END_VAR n := 1; END_PROGRAM");
    }

    /** 31: a type FITS another one, if it is the same, or INT, the other being DINT. */
    private static void fitting() {
        String[] targets = {"z", "a", "d", "s[0]", "r[0]", "u[0]", "qx", "qw"};
        int[] types = {0, 1, 2, 0, 1, 2, 0, 1};
        String[] sources = {"z", "a", "d", "s[0]", "r[0]", "u[0]", "t.Q", "k.o", "t.ET", "TRUE", "1", "99999"};
        int[] given = {0, 1, 2, 0, 1, 2, 0, 1, 2, 0, 1, 2};
        for (int i = 0; i < targets.length; i++) {
            for (int j = 0; j < sources.length; j++) {
                boolean fits = given[j] == types[i] || given[j] == 1 && types[i] == 2;
                body(fits ? 0 : 31, targets[i] + (fits ? " := " : " @:= ") + sources[j] + ";");
            }
        }
    }

    /** 32, 33, 31 of a parameter. */
    private static void parameters() {
        for (int type = 0; type < 3; type++) {
            either(type == 0, 31, "t(@IN := " + OF_TYPE[type] + ");");
            either(type != 0, 31, "t(@PT := " + OF_TYPE[type] + ");");
            either(type == 1, 31, "k(@i := " + OF_TYPE[type] + ");");
        }
        for (String name : "Q ET CU nothing t M L".split(" ")) {
            body(32, "t(@" + name + " := z);");
        }
        for (String name : "o v fb nothing".split(" ")) {
            body(32, "k(@" + name + " := 1);");
        }
        body(0, "t(IN := z, PT := 1); t(PT := 1, IN := z); t(IN := z); t(IN := z);");
        body(33, "t(IN := z, @IN := z);");
        body(33, "t(IN := z, PT := 1, @pt := 1);");
        body(33, "t(PT := 1, IN := z, @PT := 1);");
        // 32 before 33 before 31; the expression before them all.
        body(32, "t(@Q := 1, Q := 1);");
        body(33, "t(IN := z, @IN := 1);");
        body(20, "t(IN := z, IN := @nothing);");
        // If the 13 breaks 20 or 21, nothing is asked of its 14s, but of what is in them.
        body(20, "@nothing(x := 1, x := z);");
        body(21, "@a(x := 1, x := z);");
        body(21, "@r(x := 1);");
        body(27, "a(x := a @+ z);");
    }

    /** 34: an expression that is followed by a 11 is not BOOL; of a CASE it is no number. */
    private static void conditions() {
        for (int type = 0; type < 3; type++) {
            either(type == 0, 34, "@IF " + OF_TYPE[type] + " THEN END_IF;");
            either(type == 0, 34, "@IF z THEN ELSIF " + OF_TYPE[type] + " THEN END_IF;");
            either(type == 0, 34, "@IF z THEN ELSIF z THEN ELSIF " + OF_TYPE[type] + " THEN ELSE END_IF;");
            either(type != 0, 34, "@CASE " + OF_TYPE[type] + " OF END_CASE;");
            either(type != 0, 34, "@CASE " + OF_TYPE[type] + " OF 1: ELSE END_CASE;");
        }
        body(34, "@IF 1 THEN END_IF;");
        body(34, "@CASE TRUE OF END_CASE;");
        // Behind all that is in it.
        body(20, "IF a THEN @nothing := 1; END_IF;");
        body(20, "CASE z OF 1: @nothing := 1; END_CASE;");
        body(34, "@IF a THEN END_IF; nothing := 1;");
    }

    /** 35: a 31; or the first one is greater. */
    private static void ranges() {
        for (String good : new String[] {"1", "-1", "0", "2147483647", "-2147483647", "1 .. 1", "1 .. 2", "-1 .. 1", "-2 .. -1", "-1 .. -1", "-2147483647 .. 2147483647", "99999", "1, 1, 1 .. 1"}) {
            body(0, "CASE a OF " + good + ": END_CASE;");
        }
        for (String wrong : new String[] {"@TRUE", "@FALSE", "@1 .. TRUE", "@FALSE .. 1", "@1 .. 0", "@0 .. -1", "@-1 .. -2", "@2147483647 .. -2147483647", "1, @2 .. 1", "1 .. 2, 3, @TRUE"}) {
            body(35, "CASE a OF " + wrong + ": END_CASE;");
        }
        body(35, "CASE z OF 1: @TRUE: END_CASE;");
    }

    /** 36, and before it 20, 21, 22, 29, 30. */
    private static void loops() {
        for (String good : new String[] {"-32768 TO -32768", "32767 TO 32767", "1 TO 32767 BY 32767", "1 TO -32768 BY -32768", "0 TO 0", "5 TO 4", "5 TO 4 BY 1", "4 TO 5 BY -1", "1 TO 2 BY 1", "2 TO 1 BY -1"}) {
            body(0, "FOR a := " + good + " DO END_FOR; FOR d := " + good + " DO END_FOR;");
        }
        for (String wrong : new String[] {"-32769 TO 1", "32768 TO 1", "1 TO 32768", "1 TO -32769", "1 TO 2 BY 32768", "1 TO 2 BY -32769"}) {
            body(36, "@FOR a := " + wrong + " DO END_FOR;");
            boolean often = wrong.equals("-32769 TO 1") || wrong.equals("1 TO 32768");
            body(often ? 53 : 0, often ? "@" : "", "FOR d := " + wrong + " DO END_FOR;");
        }
        for (String wrong : new String[] {"TRUE TO 1", "1 TO TRUE", "1 TO 2 BY TRUE", "FALSE TO FALSE", "1 TO 2 BY FALSE", "1 TO 2 BY 0", "2 TO 1 BY 0", "1 TO 1 BY -0"}) {
            body(36, "@FOR a := " + wrong + " DO END_FOR;");
            body(36, "@FOR d := " + wrong + " DO END_FOR;");
        }
        // More than 1,000,000 times: fewer are proved too long, which comes behind all rules.
        for (String most : new String[] {"1 TO 1000000", "-500000 TO 499999", "1000000 TO 1 BY -1", "1 TO 2000000 BY 2", "2 TO 2000001 BY 2", "0 TO -2999999 BY -3", "-2147483647 TO -2146483648"}) {
            body(53, "@", "FOR d := " + most + " DO END_FOR;");
        }
        for (String more : new String[] {"1 TO 1000001", "-500000 TO 500000", "1000001 TO 1 BY -1", "1 TO 2000001 BY 2", "0 TO -3000000 BY -3", "-2147483647 TO 2147483647", "-2147483647 TO -2146483647",
            "-2147483647 TO 2147483647 BY 4294", "2147483647 TO -2147483647 BY -4294"}) {
            body(36, "@FOR d := " + more + " DO END_FOR;");
        }
        body(53, "@", "FOR d := -2147483647 TO 2147483647 BY 4295 DO END_FOR;");
        body(22, "@FOR z := 1 TO 2 DO END_FOR;");
        body(22, "@FOR z := TRUE TO 2 DO END_FOR;");
        body(22, "@FOR ix := 1 TO 2 DO END_FOR;");
        body(29, "@FOR iw := 1 TO 2 BY 0 DO END_FOR;");
        body(30, "FOR a := 1 TO 2 DO @FOR a := 1 TO 2 BY 0 DO END_FOR; END_FOR;");
        body(30, "FOR a := 1 TO 2 BY 0 DO a @:= 1; END_FOR;");
    }

    /** The fault is told at the PROGRAM's place. */
    private static void body(int fault, String mark, String text) {
        int at = (FB + FN).length();
        Bench.refused(fault, HEAD.substring(0, at) + mark + HEAD.substring(at) + text + " END_PROGRAM");
    }

    /** 37: in no 19. */
    private static void exits() {
        body(37, "@EXIT;");
        body(37, "IF z THEN @EXIT; END_IF;");
        body(37, "CASE a OF 1: @EXIT; END_CASE;");
        body(37, "FOR a := 1 TO 2 DO EXIT; END_FOR; @EXIT;");
        body(0, "FOR a := 1 TO 2 DO EXIT; FOR b := 1 TO 2 DO EXIT; END_FOR; EXIT; END_FOR;");
        body(0, "FOR a := 1 TO 2 DO IF z THEN EXIT; ELSE EXIT; END_IF; END_FOR;");
        Bench.refused(37, "FUNCTION f : INT VAR n : INT; END_VAR FOR n := 1 TO 2 DO END_FOR; @EXIT; END_FUNCTION PROGRAM p END_PROGRAM");
    }

    private static void ladder(int fault, String marked) {
        body(fault, "LADDER " + marked + " END_LADDER");
    }

    /** 38 to 41 */
    private static void rungs() {
        for (int n = 11; n <= 14; n++) {
            boolean good = n <= 12;
            ladder(good ? 0 : 38, (good ? "" : "@") + "RUNG " + "z; ".repeat(n) + "END_RUNG");
            ladder(good ? 0 : 38, (good ? "" : "@") + "RUNG " + "z ".repeat(n) + "; END_RUNG");
            ladder(good ? 0 : 38, (good ? "" : "@") + "RUNG " + "z | ".repeat(n - 1) + "z; " + "z ".repeat(n) + "; END_RUNG");
            ladder(good ? 0 : 38, (good ? "" : "@") + "RUNG " + ("- ".repeat(n - 1) + "(z); ").repeat(12) + "END_RUNG");
        }
        ladder(38, "@RUNG z; z z; END_RUNG");
        ladder(38, "@RUNG z z; z; END_RUNG");
        ladder(38, "@RUNG z z; z z; z; END_RUNG");
        ladder(38, "@RUNG z | z; z; END_RUNG");
        ladder(0, "RUNG z | z; z z; END_RUNG");
        ladder(0, "RUNG z; END_RUNG RUNG z z; END_RUNG");
        // 39: not the last in its row.
        ladder(0, "RUNG - (z); END_RUNG RUNG (z); END_RUNG");
        ladder(39, "RUNG @(z) -; END_RUNG");
        ladder(39, "RUNG @(z) (z); END_RUNG");
        ladder(39, "RUNG @(z) | -; - -; END_RUNG");
        ladder(39, "RUNG - @(ix) -; END_RUNG");
        // 40: in the last row.
        ladder(0, "RUNG z | z; z z; END_RUNG");
        ladder(40, "RUNG z @| z; END_RUNG");
        ladder(40, "RUNG z | z; z | z; z @| z; END_RUNG");
        ladder(40, "RUNG z | z; z z @| z; END_RUNG");
        ladder(38, "@RUNG z z | z; z z; END_RUNG");
        // 41: not BOOL.
        for (String cell : new String[] {"a", "/d", ">a", "<d", "t.ET", "/k.o", "(a)", "(/d)", "(+a)", "(-d)"}) {
            ladder(41, "RUNG @" + cell + "; END_RUNG");
        }
        for (String cell : new String[] {"z", "/z", ">z", "<z", "t.Q", "/t.Q", ">t.Q", "<t.Q", "(z)", "(/z)", "(+z)", "(-z)", "-", "*", "ix", "/qx", ">mx"}) {
            ladder(0, "RUNG " + cell + "; END_RUNG");
        }
        // Of a 28: 39, 41, 29.
        ladder(39, "RUNG @(iw) -; END_RUNG");
        ladder(41, "RUNG @(iw); END_RUNG");
        ladder(29, "RUNG @(ix); END_RUNG");
    }

    /** 44: more than 8 inputs, behind all that is in the FUNCTION. */
    private static void inputsOfFunctions() {
        for (int n = 7; n <= 10; n++) {
            String inputs = "VAR_INPUT " + names(n, "n") + " : INT; END_VAR ";
            Bench.refused(n > 8 ? 44 : 0, (n > 8 ? " @" : " ") + "FUNCTION f : INT " + inputs + "END_FUNCTION PROGRAM p END_PROGRAM");
            Bench.accepted("FUNCTION_BLOCK f " + inputs + "END_FUNCTION_BLOCK PROGRAM p END_PROGRAM");
        }
        String split = "VAR_INPUT " + names(4, "n") + " : INT; END_VAR VAR w, v, u : INT; END_VAR VAR_INPUT " + names(4, "m") + " : BOOL; %s END_VAR ";
        Bench.accepted("FUNCTION f : INT " + split.formatted("") + "END_FUNCTION PROGRAM p END_PROGRAM");
        Bench.refused(44, "@FUNCTION f : INT " + split.formatted("q : DINT;") + "END_FUNCTION PROGRAM p END_PROGRAM");
        Bench.refused(37, "FUNCTION f : INT " + split.formatted("q : DINT;") + "@EXIT; END_FUNCTION PROGRAM p END_PROGRAM");
        Bench.refused(44, "@FUNCTION f : INT " + split.formatted("q : DINT;") + "END_FUNCTION PROGRAM p EXIT; END_PROGRAM");
    }

    /** "the first that breaks a rule is told, of its rules the first as told here" */
    private static void firstOfSeveral() {
        // 5: 43, 15, 18, 19.
        Bench.refused(43, "FUNCTION_BLOCK f VAR_INPUT @x : TON := 5; END_VAR END_FUNCTION_BLOCK");
        Bench.refused(43, "PROGRAM p VAR_INPUT @x AT %IX0 : ARRAY [0 .. 1] OF INT := TRUE; END_VAR END_PROGRAM");
        variables(15, "@x AT %IX0 : INT := TRUE;");
        variables(15, "@x AT %IW0 : BOOL := 7;");
        Bench.refused(18, "FUNCTION_BLOCK f VAR " + arrays(16) + "@x : INT := TRUE; END_VAR END_FUNCTION_BLOCK");
        Bench.refused(43, "FUNCTION_BLOCK f VAR " + arrays(16) + "END_VAR VAR_INPUT @x : ARRAY [0 .. 1] OF INT; END_VAR END_FUNCTION_BLOCK");
        // Children first: 12, 14, 16 or 17, and then the 5; all these before the 4.
        variables(12, "@abs AT %IX0 : TON := 5;");
        variables(14, "x, y AT @%IX0 : nothing := 5;");
        variables(17, "x AT %IX0 : @nothing := 5;");
        variables(16, "x AT %IX0 : @ARRAY [1 .. 0] OF INT := 5;");
        Bench.refused(18, "PROGRAM p VAR_INPUT @x : INT := TRUE; END_VAR END_PROGRAM");
        Bench.refused(13, "PROGRAM p @VAR_INPUT x : INT; END_VAR nothing := 1; END_PROGRAM");
        // 12: its first child, its second one, 29, 30, 31.
        body(20, "@nothing := other;");
        body(20, "r[@nothing] := other;");
        body(22, "@r[z] := other;");
        body(20, "ix := @other;");
        body(29, "ix @:= 5;");
        body(30, "FOR a := 1 TO 2 DO a @:= TRUE; END_FOR;");
        // 35: from the left on, and what binds closer first.
        body(27, "a := a @+ z + nothing;");
        body(20, "a := a + z * @nothing;");
        body(27, "a := a + z @* a;");
        body(28, "a := @-z + nothing;");
        // 32: 20, 21, 22.
        body(20, "a := @nothing[z];");
        body(21, "a := @a[z];");
        // 19 behind its body.
        body(20, "FOR nothing := 1 TO 2 DO @other := 1; END_FOR;");
        body(20, "@FOR nothing := TRUE TO 2 DO END_FOR;");
        body(21, "@FOR r := TRUE TO 2 DO END_FOR;");
        // 23 behind its rows.
        ladder(41, "RUNG z z; @a; END_RUNG");
        ladder(38, "@RUNG z z; z; END_RUNG RUNG a; END_RUNG");
        ladder(40, "RUNG z @| z | a; END_RUNG");
        // The first block that breaks one; reading comes before all.
        Bench.refused(20, "FUNCTION f : INT f := @x; END_FUNCTION FUNCTION f : INT END_FUNCTION");
        Bench.refused(6, "FUNCTION f : INT f := x; END_FUNCTION PROGRAM p @");
        Bench.refused(1, "FUNCTION f : INT f := x; END_FUNCTION PROGRAM p END_PROGRAM @$");
    }
}
