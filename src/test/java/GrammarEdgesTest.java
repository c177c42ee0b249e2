import java.util.ArrayList;
import java.util.HashMap;
import java.util.HashSet;
import java.util.List;
import java.util.Map;
import java.util.Random;
import java.util.Set;

/**
 * Promise 4, GRAMMAR: the first token that can't come, found by a reader of any grammar (after
 * Earley) out of the document's rules; and DEPTH, at 60 and 61 open tokens of all kinds.
 */
public final class GrammarEdgesTest {
    /** A rule a line; what stands in small letters is a rule or name, number, place; / parts one form from another. */
    private static final String RULES = """
        text = / text block
        block = FUNCTION name : simple sections body END_FUNCTION / FUNCTION_BLOCK name sections body END_FUNCTION_BLOCK / PROGRAM name sections body END_PROGRAM
        sections = / sections section
        section = which declarations END_VAR
        which = VAR / VAR_INPUT / VAR_OUTPUT
        declarations = / declarations declaration
        declaration = names at : type first ;
        names = name / names , name
        at = / AT place
        first = / := constant
        simple = BOOL / INT / DINT
        type = simple / ARRAY [ constant .. constant ] OF simple / name
        constant = number / - number / TRUE / FALSE
        body = statements / LADDER rungs END_LADDER
        statements = / statements statement
        statement = ; / name := expression ; / name [ expression ] := expression ; / name ( parameters ) ; / IF expression THEN statements elsifs else END_IF ; / CASE expression OF choices else END_CASE ; / FOR name := constant TO constant by DO statements END_FOR ; / EXIT ; / RETURN ;
        parameters = / some_parameters
        some_parameters = parameter / some_parameters , parameter
        parameter = name := expression
        elsifs = / elsifs ELSIF expression THEN statements
        else = / ELSE statements
        choices = / choices ranges : statements
        ranges = range / ranges , range
        range = constant / constant .. constant
        by = / BY constant
        expression = operand / expression sign operand
        sign = OR / XOR / AND / & / eq / <> / < / > / <= / >= / + / - / * / over / MOD
        operand = - operand / NOT operand / number / TRUE / FALSE / ( expression ) / name / name [ expression ] / name . name / name ( operands )
        operands = / some_operands
        some_operands = expression / some_operands , expression
        rungs = / rungs rung
        rung = RUNG rows END_RUNG
        rows = row / rows row
        row = cells ;
        cells = cell / cells cell / cells bar cell
        cell = contact name / contact name . name / - / * / ( coil name )
        contact = / over / > / <
        coil = / over / + / -
        """;
    private static final Map<String, List<String[]>> FORMS = new HashMap<>();
    private static final List<String> TERMINALS = new ArrayList<>();

    public static void main(String[] args) {
        readRules();
        prefixes();
        allOtherTokens();
        otherTokens();
        openOfEachKind();
        openOnesByChance();
        neverOpen();
        Bench.finish("GrammarEdgesTest");
    }

    private static void readRules() {
        for (String line : RULES.strip().split("\n")) {
            int eq = line.indexOf(" =");
            List<String[]> forms = new ArrayList<>();
            for (String form : line.substring(eq + 2).split("/", -1)) {
                forms.add(form.isBlank() ? new String[0] : form.strip().split(" "));
            }
            FORMS.put(line.substring(0, eq), forms);
        }
        for (List<String[]> forms : FORMS.values()) {
            for (String[] form : forms) {
                for (String part : form) {
                    if (!FORMS.containsKey(part) && !TERMINALS.contains(part)) {
                        TERMINALS.add(part);
                    }
                }
            }
        }
        TERMINALS.sort(null);
        Bench.due("kinds of tokens", TERMINALS.size(), 41 + 22 + 3);
    }

    private record Item(String rule, int form, int dot, int from) {
        String next() {
            String[] parts = FORMS.get(rule).get(form);
            return dot < parts.length ? parts[dot] : null;
        }
    }

    /** The index of the first token that can't come; their number if the text may not end there; -1 if it is a text. */
    private static int firstWrong(List<String> tokens) {
        List<Set<Item>> sets = new ArrayList<>();
        Set<Item> start = new HashSet<>();
        for (int f = 0; f < FORMS.get("text").size(); f++) {
            start.add(new Item("text", f, 0, 0));
        }
        sets.add(start);
        for (int at = 0; at <= tokens.size(); at++) {
            close(sets, at);
            if (at == tokens.size()) {
                break;
            }
            Set<Item> next = new HashSet<>();
            for (Item item : sets.get(at)) {
                if (tokens.get(at).equals(item.next())) {
                    next.add(new Item(item.rule, item.form, item.dot + 1, item.from));
                }
            }
            if (next.isEmpty()) {
                return at;
            }
            sets.add(next);
        }
        for (Item item : sets.get(tokens.size())) {
            if (item.rule.equals("text") && item.from == 0 && item.next() == null) {
                return -1;
            }
        }
        return tokens.size();
    }

    private static void close(List<Set<Item>> sets, int at) {
        boolean more = true;
        while (more) {
            List<Item> found = new ArrayList<>();
            for (Item item : sets.get(at)) {
                String next = item.next();
                if (next == null) {
                    for (Item before : sets.get(item.from)) {
                        if (item.rule.equals(before.next())) {
                            found.add(new Item(before.rule, before.form, before.dot + 1, before.from));
                        }
                    }
                } else if (FORMS.containsKey(next)) {
                    for (int f = 0; f < FORMS.get(next).size(); f++) {
                        found.add(new Item(next, f, 0, at));
                    }
                }
            }
            more = sets.get(at).addAll(found);
        }
    }

    /** A text of the grammar by chance; the deeper, the sooner the first, shortest forms come. */
    private static void derive(Random random, String part, int depth, List<String> into) {
        if (!FORMS.containsKey(part)) {
            into.add(part);
            return;
        }
        List<String[]> forms = FORMS.get(part);
        boolean list = forms.size() == 2 && forms.get(1).length > 0 && forms.get(1)[0].equals(part);
        int chosen = random.nextInt(forms.size());
        if (depth > 9 && !part.equals("statement") && !part.equals("block")) {
            chosen = part.equals("operand") ? 6 : 0;
        } else if (list && random.nextInt(3) > 0) {
            chosen = 1;
        }
        for (String next : forms.get(chosen)) {
            derive(random, next, depth + 1, into);
        }
    }

    private static String written(Random random, String token) {
        switch (token) {
            case "name": return new String[] {"a", "b", "TON", "x1", "_", "abs"}[random.nextInt(6)];
            case "number": return new String[] {"0", "7", "16#FF", "T#5S", "99999"}[random.nextInt(5)];
            case "place": return new String[] {"%IX0", "%QW63"}[random.nextInt(2)];
            case "eq": return "=";
            case "over": return "/";
            case "bar": return "|";
            default: return token;
        }
    }

    private static PlantKeeper keeper = new PlantKeeper();
    private static int calls = 0;

    /** Compares what the program tells of some tokens with what the rules tell. */
    private static void compare(Random random, List<String> tokens) {
        StringBuilder text = new StringBuilder(" ".repeat(random.nextInt(3)));
        int[] places = new int[tokens.size() + 1];
        for (int i = 0; i < tokens.size(); i++) {
            places[i] = text.length();
            text.append(written(random, tokens.get(i))).append(random.nextInt(4) == 0 ? "\n(* *)" : " ");
        }
        places[tokens.size()] = text.length();
        int wrong = firstWrong(tokens);
        calls += text.length() / 20 + 5;
        if (calls > 500) {
            keeper = new PlantKeeper();
            calls = text.length() / 20 + 5;
        }
        int fault = Bench.load(keeper, text.toString());
        if (wrong < 0) {
            Bench.due("a text of the grammar: " + text, fault == 0 || fault >= 10 ? 1 : 0, 1);
        } else {
            Bench.due("fault of " + text, fault, 6);
            Bench.due("place of " + text, keeper.count(1), places[wrong]);
        }
    }

    private static List<String> derived(Random random) {
        List<String> tokens = new ArrayList<>();
        do {
            tokens.clear();
            derive(random, "block", 0, tokens);
        } while (tokens.size() > 45 || tokens.size() < 6);
        return tokens;
    }

    /** "at the text's end if the text ends too early" */
    private static void prefixes() {
        Random random = new Random(1);
        for (int run = 0; run < 40; run++) {
            List<String> tokens = derived(random);
            Bench.due("the grammar of the test", firstWrong(tokens), -1);
            for (int n = 0; n <= tokens.size(); n++) {
                compare(random, tokens.subList(0, n));
            }
        }
    }

    /** Texts that have each form of the grammar; each of their tokens is every other one once. */
    private static void allOtherTokens() {
        String[] texts = {"FUNCTION name : BOOL VAR name , name AT place : INT := - number ; END_VAR VAR_INPUT name : DINT := TRUE ; END_VAR VAR_OUTPUT name : name ; END_VAR END_FUNCTION",
            "FUNCTION_BLOCK name VAR name : ARRAY [ number .. - number ] OF BOOL := FALSE ; END_VAR ; name := name . name + number ; EXIT ; RETURN ; END_FUNCTION_BLOCK",
            "PROGRAM name name [ name ] := name [ - number ] ; name ( ) ; name ( name := NOT name , name := ( TRUE ) ) ; name := name ( ) * name ( name , number ) ; END_PROGRAM",
            "PROGRAM name IF name eq name THEN ; ELSIF name <> name THEN name := number ; ELSE ; END_IF ; IF TRUE THEN END_IF ; END_PROGRAM",
            "PROGRAM name CASE name OF number : ; - number .. number , TRUE : name := name ; ELSE ; END_CASE ; CASE number OF END_CASE ; END_PROGRAM",
            "PROGRAM name FOR name := number TO - number BY number DO EXIT ; END_FOR ; FOR name := TRUE TO number DO END_FOR ; END_PROGRAM",
            "PROGRAM name name := name OR name XOR name AND name & name < name > name <= name >= name - name over name MOD name ; END_PROGRAM",
            "PROGRAM name LADDER RUNG name over name > name < name . name - * ( name ) ; END_RUNG RUNG name bar name ( over name ) ; ( + name ) ; ( - name ) ; END_RUNG END_LADDER END_PROGRAM"};
        Random random = new Random(4);
        for (String text : texts) {
            List<String> tokens = List.of(text.split(" "));
            Bench.due("a text of the grammar: " + text, firstWrong(tokens), -1);
            for (int at = 0; at < tokens.size(); at++) {
                for (String other : TERMINALS) {
                    // What comes behind the token is left out: it is told of the first one that can't come.
                    List<String> changed = new ArrayList<>(tokens.subList(0, at));
                    changed.add(other);
                    compare(random, changed);
                }
            }
        }
    }

    /** Each token of a text is left out, doubled, or another one comes in its place or before it. */
    private static void otherTokens() {
        Random random = new Random(2);
        for (int run = 0; run < 250; run++) {
            List<String> tokens = derived(random);
            for (int turn = 0; turn < 24; turn++) {
                List<String> changed = new ArrayList<>(tokens);
                int at = random.nextInt(tokens.size());
                String other = TERMINALS.get(random.nextInt(TERMINALS.size()));
                switch (random.nextInt(5)) {
                    case 0: changed.remove(at); break;
                    case 1: changed.add(at, changed.get(at)); break;
                    case 2: changed.add(at, other); break;
                    default: changed.set(at, other);
                }
                compare(random, changed);
            }
        }
    }

    private static final String HEAD = "PROGRAM p VAR a, b : INT; z : BOOL; r : ARRAY [0 .. 3] OF INT; t : TON; END_VAR ";
    /** What opens a token in a statement: all up to what is within, the token's place in that, and what closes it. */
    private static final String[][] OUTER = {{"IF z THEN ", "0", " END_IF;"}, {"CASE a OF 1: ", "0", " END_CASE;"}, {"FOR b := 1 TO 2 DO ", "0", " END_FOR;"},
        {"IF z THEN ELSE ", "0", " END_IF;"}, {"IF z THEN ; ELSIF z THEN ", "0", " END_IF;"}, {"CASE a OF 1, 2 .. 3: a := 1; ELSE ", "0", " END_CASE;"}};
    private static final String[][] INNER = {{"-", "0", ""}, {"NOT ", "0", ""}, {"(", "0", ")"}, {"ABS(", "3", ")"}, {"MAX(a, ", "3", ")"}, {"r[", "1", "]"}, {"a OR ", "2", ""},
        {"a XOR ", "2", ""}, {"a AND ", "2", ""}, {"a & ", "2", ""}, {"a = ", "2", ""}, {"a <> ", "2", ""}, {"a < ", "2", ""}, {"a > ", "2", ""}, {"a <= ", "2", ""}, {"a >= ", "2", ""},
        {"a + ", "2", ""}, {"a - ", "2", ""}, {"a * ", "2", ""}, {"a / ", "2", ""}, {"a MOD ", "2", ""}};
    /** Statements with an expression in them; the second is how many tokens they have open there. */
    private static final String[][] STATEMENTS = {{"a := ", "0", ";"}, {"r[0] := ", "0", ";"}, {"r[", "1", "] := 1;"}, {"t(PT := ", "1", ");"}, {"t(IN := z, PT := ", "1", ");"},
        {"IF ", "1", " THEN END_IF;"}, {"CASE ", "1", " OF END_CASE;"}, {"IF z THEN ELSIF ", "1", " THEN END_IF;"}};

    /** A text with so many outer and inner ones open; the 61st is due to be told. */
    private static void opened(String[] outer, int n, String[] statement, String[] inner, int m) {
        StringBuilder text = new StringBuilder(HEAD);
        StringBuilder close = new StringBuilder();
        int open = 0;
        int place = -1;
        for (int i = 0; i < n; i++) {
            place = ++open == 61 ? text.length() + Integer.parseInt(outer[1]) : place;
            text.append(outer[0]);
            close.insert(0, outer[2]);
        }
        open += Integer.parseInt(statement[1]);
        // The [ of what is assigned is closed again before the expression.
        boolean bracket = statement[0].startsWith("r[") || statement[0].startsWith("t(");
        if (place < 0 && (open == 61 || open == 60 && statement[0].startsWith("r[0]"))) {
            place = text.length() + (bracket ? 1 : 0);
        }
        text.append(statement[0]);
        close.insert(0, statement[2]);
        for (int i = 0; i < m; i++) {
            place = ++open == 61 ? text.length() + Integer.parseInt(inner[1]) : place;
            text.append(inner[0]);
            close.insert(0, inner[2]);
        }
        depth(text + "a" + close + " END_PROGRAM", place);
    }

    private static void depth(String text, int place) {
        PlantKeeper x = new PlantKeeper();
        int fault = Bench.load(x, text);
        if (place < 0) {
            Bench.due("not too deep: " + text, fault == 0 || fault >= 10 ? 1 : 0, 1);
        } else {
            Bench.due("too deep: " + text, fault, 7);
            Bench.due("place in " + text, x.count(1), place);
        }
    }

    /** "the token that would be open as the 61st, if it can come, is FAULT 7" */
    private static void openOfEachKind() {
        for (String[] outer : OUTER) {
            for (int n : new int[] {59, 60, 61}) {
                opened(outer, n, STATEMENTS[0], INNER[0], 0);
                opened(outer, n, STATEMENTS[0], INNER[0], 1);
            }
        }
        for (String[] statement : STATEMENTS) {
            opened(OUTER[0], 59, statement, INNER[0], 0);
            opened(OUTER[1], 60, statement, INNER[0], 0);
            opened(OUTER[2], 60, statement, INNER[0], 0);
            for (String[] inner : INNER) {
                int own = Integer.parseInt(statement[1]);
                opened(OUTER[0], 0, statement, inner, 60 - own);
                opened(OUTER[0], 0, statement, inner, 61 - own);
                opened(OUTER[2], 7, statement, inner, 53 - own);
                opened(OUTER[2], 7, statement, inner, 54 - own);
            }
        }
        // If it can't come, it is FAULT 6; a token that is badly written has its own fault.
        String sixty = HEAD + "a := " + "(".repeat(60);
        Bench.refused(6, sixty + "@)");
        Bench.refused(6, sixty + "@[");
        Bench.refused(6, sixty + "@+");
        Bench.refused(6, sixty + "1@(");
        Bench.refused(7, sixty + "a@(");
        Bench.refused(7, sixty + "a@[");
        Bench.refused(7, sixty + "a@+");
        Bench.refused(7, sixty + "@-");
        Bench.refused(7, sixty + "@NOT");
        Bench.refused(7, sixty + "@(");
        Bench.refused(2, sixty + "@(*");
        Bench.refused(6, sixty + "a @NOT");
        Bench.refused(4, sixty + "@1a");
        Bench.refused(6, HEAD + "IF z THEN ".repeat(60) + "@THEN");
        Bench.refused(7, HEAD + "IF z THEN ".repeat(60) + "@IF");
        Bench.refused(6, HEAD + "IF z THEN ".repeat(60) + "@(");
        Bench.refused(6, HEAD + "IF z THEN ".repeat(60) + "a@.(");
        Bench.refused(7, HEAD + "IF z THEN ".repeat(60) + "a@(");
        Bench.refused(7, HEAD + "IF z THEN ".repeat(60) + "a@[");
    }

    /** Makes expressions by chance, and knows which of their tokens are open. */
    private static final class Maker {
        private final Random random;
        private final StringBuilder text = new StringBuilder(HEAD);
        private int open = 0;
        private int most = 0;
        private int place = -1;

        Maker(Random random) {
            this.random = random;
        }

        private void opens(String token) {
            open++;
            most = Math.max(most, open);
            if (open == 61 && place < 0) {
                place = text.length();
            }
            text.append(token);
        }

        private void within(String opening, int n, String closing) {
            opens(opening);
            expression(n);
            text.append(closing);
            open--;
        }

        private void operand(int n) {
            int kind = n <= 0 ? 0 : random.nextInt(7);
            if (kind <= 1) {
                text.append(n <= 0 ? "a" : "t.ET");
            } else if (kind == 2) {
                opens(random.nextBoolean() ? "- " : "NOT ");
                operand(n - 1);
                open--;
            } else if (kind == 3) {
                within("(", n - 1, ")");
            } else if (kind == 4) {
                text.append("r");
                within("[", n - 1, "]");
            } else {
                text.append("MAX");
                opens("(");
                expression(n / 2);
                text.append(", ");
                expression(n - n / 2 - 1);
                text.append(")");
                open--;
            }
        }

        private void expression(int n) {
            int parts = n <= 0 ? 1 : 1 + random.nextInt(Math.min(n, 6));
            operand(n / parts);
            for (int i = 1; i < parts; i++) {
                text.append(" ");
                opens(INNER[6 + random.nextInt(15)][0].substring(2));
                operand(n / parts);
            }
        }

        private void statement(int n) {
            int before = open;
            text.append("a := ");
            expression(n);
            open = before;
            text.append(";");
        }
    }

    private static void openOnesByChance() {
        Random random = new Random(3);
        int close = 0;
        int over = 0;
        for (int run = 0; run < 6000; run++) {
            Maker maker = new Maker(random);
            int outer = random.nextInt(40);
            for (int i = 0; i < outer; i++) {
                maker.opens("IF z THEN ");
            }
            maker.statement(20 + random.nextInt(120));
            maker.statement(1);
            String text = maker.text + " END_IF;".repeat(outer) + " END_PROGRAM";
            if (text.length() < 8000 && maker.most >= 50 && maker.most <= 75) {
                depth(text, maker.place);
                close += maker.most == 60 ? 1 : 0;
                over += maker.most == 61 ? 1 : 0;
            }
        }
        Bench.due("both sides came: " + close + ", " + over, close > 10 && over > 10 ? 1 : 0, 1);
    }

    /** "The '-' of a constant is never open"; "but '(' of a cell"; '[' of a declaration. */
    private static void neverOpen() {
        String full = HEAD + "IF z THEN ".repeat(59) + "%s" + " END_IF;".repeat(59) + " END_PROGRAM";
        depth(full.formatted("FOR a := -1 TO -2 BY -3 DO b := 1; END_FOR;"), -1);
        depth(full.formatted("CASE a OF -1: -2 .. -1: -3, -4: END_CASE;"), -1);
        String text = full.formatted("CASE a OF -1: b := -1; END_CASE;");
        depth(text, text.indexOf("-1;"));
        depth("PROGRAM p VAR z : BOOL; END_VAR LADDER " + ("RUNG " + "(/z); (z); ".repeat(5) + "END_RUNG ").repeat(20) + "END_LADDER END_PROGRAM", -1);
        StringBuilder arrays = new StringBuilder("PROGRAM p VAR ");
        for (int i = 0; i < 70; i++) {
            arrays.append("a").append(i).append(" : ARRAY [-1 .. -1] OF INT := -5; ");
        }
        depth(arrays + "END_VAR END_PROGRAM", -1);
    }
}
