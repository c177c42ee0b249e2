import java.math.BigInteger;
import java.util.ArrayList;
import java.util.Arrays;
import java.util.List;
import java.util.Locale;
import java.util.Set;
import java.util.regex.Matcher;
import java.util.regex.Pattern;

/** The model's reading of a text: TOKENS, GRAMMAR and THE TREE, written once more from the document's words. */
final class ModelReader {
    static final Set<String> WORDS = Set.of(("FUNCTION END_FUNCTION FUNCTION_BLOCK END_FUNCTION_BLOCK PROGRAM END_PROGRAM VAR VAR_INPUT VAR_OUTPUT END_VAR AT BOOL INT DINT ARRAY OF IF THEN ELSIF ELSE END_IF "
        + "CASE END_CASE FOR TO BY DO END_FOR EXIT RETURN OR XOR AND MOD NOT TRUE FALSE LADDER END_LADDER RUNG END_RUNG").split(" "));
    private static final String[] SIGNS = ":= .. <= >= <> ( ) [ ] , ; : . + - * / = < > & |".split(" ");
    private static final List<List<String>> BINDING = List.of(List.of("OR"), List.of("XOR"), List.of("AND", "&"), List.of("=", "<>"), List.of("<", ">", "<=", ">="), List.of("+", "-"),
        List.of("*", "/", "MOD"));
    private static final List<String> OPERATORS = List.of("OR", "XOR", "AND", "=", "<>", "<", ">", "<=", ">=", "+", "-", "*", "/", "MOD");
    private static final BigInteger GREATEST = BigInteger.valueOf(2147483647);

    /** The first fault of a text. */
    static final class Fault extends RuntimeException {
        private static final long serialVersionUID = 1;
        final int number;
        final int place;

        Fault(int number, int place) {
            super(number + " at " + place);
            this.number = number;
            this.place = place;
        }
    }

    static final class Token {
        final String kind;
        final String text;
        final int place;
        final int value;

        Token(String kind, String text, int place, int value) {
            this.kind = kind;
            this.text = text;
            this.place = place;
            this.value = value;
        }
    }

    static final class Node {
        final int kind;
        final int place;
        int value;
        String name = "";
        final List<Node> children = new ArrayList<>();
        /** What the rules find out: the type, the variable meant, the value of what is constant. */
        int type = -1;
        Object meant;
        Object field;
        Integer constant;

        Node(int kind, int place, int value) {
            this.kind = kind;
            this.place = place;
            this.value = value;
        }

        Node named(String newName) {
            name = newName;
            return this;
        }

        Node with(Node... more) {
            children.addAll(Arrays.asList(more));
            return this;
        }

        Node child(int i) {
            return children.get(i);
        }

        Node last() {
            return children.get(children.size() - 1);
        }
    }

    private final String text;
    private final List<Token> tokens = new ArrayList<>();
    private int at = 0;
    private int open = 0;

    private ModelReader(String text) {
        this.text = text;
    }

    static Node read(String text) {
        ModelReader reader = new ModelReader(text);
        reader.allTokens();
        Node tree = new Node(0, 0, 0);
        while (!reader.is("end")) {
            tree.with(reader.block());
        }
        return tree;
    }

    // TOKENS

    private char charAt(int i) {
        return i < text.length() ? text.charAt(i) : '\0';
    }

    private boolean isPart(int i) {
        return String.valueOf(charAt(i)).matches("[A-Za-z0-9_]");
    }

    private void allTokens() {
        int i = 0;
        while (true) {
            while (i < text.length() && (text.startsWith("(*", i) || "\t\n\r ".indexOf(text.charAt(i)) >= 0)) {
                if (text.charAt(i) != '(') {
                    i++;
                    continue;
                }
                int close = text.indexOf("*)", i + 2);
                if (close < 0) {
                    wrong(2, i);
                    return;
                }
                i = close + 2;
            }
            if (i >= text.length()) {
                tokens.add(new Token("end", "", i, 0));
                return;
            }
            int length = oneToken(i);
            if (length == 0) {
                return;
            }
            i += length;
        }
    }

    private int wrong(int fault, int place) {
        tokens.add(new Token("wrong", "", place, fault));
        return 0;
    }

    private String match(String pattern, int i) {
        Matcher matcher = Pattern.compile(pattern, Pattern.CASE_INSENSITIVE).matcher(text).region(i, text.length());
        return matcher.lookingAt() ? matcher.group() : null;
    }

    /** Adds the token that begins at a byte, and tells its length; 0 if it is badly written. */
    private int oneToken(int i) {
        if (match("t#|[0-9]", i) != null) {
            return number(i);
        }
        String name = match("[a-z_][a-z0-9_]*", i);
        if (name != null) {
            if (name.length() > 32) {
                return wrong(3, i);
            }
            String great = name.toUpperCase(Locale.ROOT);
            tokens.add(new Token(WORDS.contains(great) ? great : "name", great, i, 0));
            return name.length();
        }
        if (charAt(i) == '%') {
            return place(i);
        }
        for (String sign : SIGNS) {
            if (text.startsWith(sign, i)) {
                tokens.add(new Token(sign, sign, i, 0));
                return sign.length();
            }
        }
        return wrong(1, i);
    }

    private int number(int i) {
        String all = match("t#[0-9]+(ms|s|m|h)|0*16#[0-9a-f]+|0*2#[01]+|[0-9]+(?!#)(?![0-9])", i);
        if (all == null || isPart(i + all.length())) {
            return wrong(4, i);
        }
        BigInteger value;
        String great = all.toUpperCase(Locale.ROOT);
        if (great.startsWith("T#")) {
            String digits = great.replaceAll("[^0-9]", "");
            int times = great.endsWith("MS") ? 1 : great.endsWith("S") ? 1000 : great.endsWith("M") ? 60000 : 3600000;
            value = new BigInteger(digits).multiply(BigInteger.valueOf(times));
        } else if (great.contains("#")) {
            String[] both = great.split("#");
            value = new BigInteger(both[1], Integer.parseInt(both[0]));
        } else {
            value = new BigInteger(great);
        }
        if (value.compareTo(GREATEST) > 0) {
            return wrong(4, i);
        }
        tokens.add(new Token("number", all, i, value.intValue()));
        return all.length();
    }

    private int place(int i) {
        String all = match("%[iqm][xw][0-9]+", i);
        if (all == null || isPart(i + all.length())) {
            return wrong(5, i);
        }
        String great = all.toUpperCase(Locale.ROOT);
        int area = List.of("IX", "QX", "MX", "IW", "QW", "MW").indexOf(great.substring(1, 3));
        BigInteger number = new BigInteger(great.substring(3));
        if (number.compareTo(BigInteger.valueOf(area < 3 ? 255 : 63)) > 0) {
            return wrong(5, i);
        }
        tokens.add(new Token("place", all, i, 256 * area + number.intValue()));
        return all.length();
    }

    // GRAMMAR

    private Token token() {
        return tokens.get(at);
    }

    private boolean is(String... kinds) {
        return Arrays.asList(kinds).contains(token().kind);
    }

    private Fault wrongHere() {
        return new Fault(is("wrong") ? token().value : 6, token().place);
    }

    private Token take(String... kinds) {
        if (!is(kinds)) {
            throw wrongHere();
        }
        at++;
        return tokens.get(at - 1);
    }

    private Token takeOpen(String... kinds) {
        if (!is(kinds)) {
            throw wrongHere();
        }
        if (open == 60) {
            throw new Fault(7, token().place);
        }
        open++;
        return take(kinds);
    }

    private Node block() {
        Token word = take("FUNCTION", "FUNCTION_BLOCK", "PROGRAM");
        int kind = List.of("", "FUNCTION", "FUNCTION_BLOCK", "PROGRAM").indexOf(word.kind);
        Node node = new Node(kind, word.place, 0).named(take("name").text);
        if (kind == 1) {
            take(":");
            node.with(simple());
        }
        while (is("VAR", "VAR_INPUT", "VAR_OUTPUT")) {
            Token section = take(token().kind);
            Node sectionNode = new Node(4, section.place, List.of("VAR", "VAR_INPUT", "VAR_OUTPUT").indexOf(section.kind));
            while (is("name")) {
                sectionNode.with(declaration());
            }
            take("END_VAR");
            node.with(sectionNode);
        }
        node.with(is("LADDER") ? ladder() : body());
        take("END_" + word.kind);
        return node;
    }

    private Node simple() {
        Token word = take("BOOL", "INT", "DINT");
        return new Node(8, word.place, List.of("BOOL", "INT", "DINT").indexOf(word.kind));
    }

    private Node name() {
        Token name = take("name");
        return new Node(6, name.place, 0).named(name.text);
    }

    private Node declaration() {
        Node node = new Node(5, token().place, 0).with(name());
        while (is(",")) {
            take(",");
            node.with(name());
        }
        if (is("AT")) {
            take("AT");
            Token place = take("place");
            node.with(new Node(7, place.place, place.value));
        }
        take(":");
        if (is("ARRAY")) {
            Node array = new Node(9, take("ARRAY").place, 0);
            take("[");
            array.with(constant());
            take("..");
            array.with(constant());
            take("]");
            take("OF");
            node.with(array.with(simple()));
        } else if (is("name")) {
            Token block = take("name");
            node.with(new Node(10, block.place, 0).named(block.text));
        } else {
            node.with(simple());
        }
        if (is(":=")) {
            take(":=");
            node.with(constant());
        }
        take(";");
        return node;
    }

    private Node constant() {
        if (is("TRUE", "FALSE")) {
            return truth();
        }
        int place = token().place;
        boolean minus = is("-");
        if (minus) {
            take("-");
        }
        int value = take("number").value;
        return new Node(30, place, minus ? -value : value);
    }

    private Node truth() {
        Token word = take("TRUE", "FALSE");
        return new Node(31, word.place, word.kind.equals("TRUE") ? 1 : 0);
    }

    private Node body() {
        Node node = new Node(11, 0, 0);
        while (is(";", "name", "IF", "CASE", "FOR", "EXIT", "RETURN")) {
            if (!is(";")) {
                node.with(statement());
            }
            take(";");
        }
        return node;
    }

    private Node statement() {
        switch (token().kind) {
            case "IF": return ifStatement();
            case "CASE": return caseStatement();
            case "FOR": return forStatement();
            case "EXIT": return new Node(20, take("EXIT").place, 0);
            case "RETURN": return new Node(21, take("RETURN").place, 0);
            default:
        }
        Token name = take("name");
        if (is("(")) {
            return invocation(name);
        }
        Node target = new Node(6, name.place, 0).named(name.text);
        if (is("[")) {
            takeOpen("[");
            target = new Node(32, name.place, 0).named(name.text).with(outermost());
            take("]");
            open--;
        } else if (!is(":=")) {
            throw wrongHere();
        }
        Node node = new Node(12, take(":=").place, 0);
        return node.with(target, outermost());
    }

    private Node invocation(Token name) {
        Node node = new Node(13, name.place, 0).named(name.text);
        takeOpen("(");
        if (is("name")) {
            node.with(parameter());
            while (is(",")) {
                take(",");
                node.with(parameter());
            }
        }
        take(")");
        open--;
        return node;
    }

    private Node parameter() {
        Token name = take("name");
        take(":=");
        return new Node(14, name.place, 0).named(name.text).with(outermost());
    }

    private Node ifStatement() {
        Node node = new Node(15, takeOpen("IF").place, 0).with(outermost());
        take("THEN");
        node.with(body());
        while (is("ELSIF")) {
            take("ELSIF");
            node.with(outermost());
            take("THEN");
            node.with(body());
        }
        if (is("ELSE")) {
            take("ELSE");
            node.with(body());
        }
        take("END_IF");
        open--;
        return node;
    }

    private Node caseStatement() {
        Node node = new Node(16, takeOpen("CASE").place, 0).with(outermost());
        take("OF");
        while (is("-", "number", "TRUE", "FALSE")) {
            Node choice = new Node(17, token().place, 0).with(range());
            while (is(",")) {
                take(",");
                choice.with(range());
            }
            take(":");
            node.with(choice.with(body()));
        }
        if (is("ELSE")) {
            take("ELSE");
            node.with(body());
        }
        take("END_CASE");
        open--;
        return node;
    }

    private Node range() {
        Node node = new Node(18, token().place, 0).with(constant());
        if (is("..")) {
            take("..");
            node.with(constant());
        }
        return node;
    }

    private Node forStatement() {
        Node node = new Node(19, takeOpen("FOR").place, 0).named(take("name").text);
        take(":=");
        node.with(constant());
        take("TO");
        node.with(constant());
        if (is("BY")) {
            take("BY");
            node.with(constant());
        }
        take("DO");
        node.with(body());
        take("END_FOR");
        open--;
        return node;
    }

    private Node outermost() {
        int before = open;
        Node node = binding(0);
        open = before;
        return node;
    }

    private Node binding(int level) {
        if (level == BINDING.size()) {
            return operand();
        }
        Node left = binding(level + 1);
        while (BINDING.get(level).contains(token().kind)) {
            Token sign = takeOpen(token().kind);
            int value = OPERATORS.indexOf(sign.kind.equals("&") ? "AND" : sign.kind);
            left = new Node(35, sign.place, value).with(left, binding(level + 1));
        }
        return left;
    }

    private Node operand() {
        if (is("-", "NOT")) {
            Token sign = takeOpen("-", "NOT");
            Node node = new Node(36, sign.place, sign.kind.equals("-") ? 0 : 1).with(operand());
            open--;
            return node;
        }
        if (is("TRUE", "FALSE")) {
            return truth();
        }
        if (is("number")) {
            Token number = take("number");
            return new Node(30, number.place, number.value);
        }
        if (is("(")) {
            takeOpen("(");
            Node node = binding(0);
            take(")");
            open--;
            return node;
        }
        Token name = take("name");
        if (is(".")) {
            take(".");
            return new Node(33, name.place, 0).named(name.text).with(name());
        }
        if (is("[")) {
            takeOpen("[");
            Node node = new Node(32, name.place, 0).named(name.text).with(binding(0));
            take("]");
            open--;
            return node;
        }
        return is("(") ? call(name) : new Node(6, name.place, 0).named(name.text);
    }

    private Node call(Token name) {
        Node node = new Node(34, name.place, 0).named(name.text);
        takeOpen("(");
        if (!is(")")) {
            node.with(binding(0));
            while (is(",")) {
                take(",");
                node.with(binding(0));
            }
        }
        take(")");
        open--;
        return node;
    }

    private Node ladder() {
        Node node = new Node(22, take("LADDER").place, 0);
        while (is("RUNG")) {
            Node rung = new Node(23, take("RUNG").place, 0);
            do {
                rung.with(row());
            } while (!is("END_RUNG"));
            take("END_RUNG");
            node.with(rung);
        }
        take("END_LADDER");
        return node;
    }

    private Node row() {
        Node node = new Node(24, token().place, 0).with(cell());
        while (!is(";")) {
            if (is("|")) {
                node.with(new Node(29, take("|").place, 0));
            }
            node.with(cell());
        }
        take(";");
        return node;
    }

    private Node cell() {
        int place = token().place;
        if (is("-", "*")) {
            return new Node(take("-", "*").kind.equals("-") ? 26 : 27, place, 0);
        }
        if (is("(")) {
            take("(");
            int value = is("/", "+", "-") ? List.of("", "/", "+", "-").indexOf(take("/", "+", "-").kind) : 0;
            Node node = new Node(28, place, value).with(name());
            take(")");
            return node;
        }
        int value = is("/", ">", "<") ? List.of("", "/", ">", "<").indexOf(take("/", ">", "<").kind) : 0;
        Token name = take("name");
        Node seen = new Node(6, name.place, 0).named(name.text);
        if (is(".")) {
            take(".");
            seen = new Node(33, name.place, 0).named(name.text).with(name());
        }
        return new Node(25, place, value).with(seen);
    }
}
