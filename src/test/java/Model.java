import java.util.ArrayList;
import java.util.List;
import java.util.Locale;
import java.util.regex.Matcher;
import java.util.regex.Pattern;

/**
 * What the document asks for, written once more in another way: trees of objects, tokens by
 * patterns, expressions by levels. Its answers are the due ones of ModelTest and WaysTest.
 */
final class Model {
    static final int NONE = -1;

    /** A token: its kind, its first place, and its characters. */
    private record Token(String kind, int from, String signs) {
    }

    static final class Node {
        int kind;
        final List<Node> children = new ArrayList<>();
        String letters = "";
        int sheet = NONE;
        // First row, first column, last row, last column.
        int[] cell = new int[4];
        boolean[] dollar = new boolean[4];
        int value;

        Node(int kind) {
            this.kind = kind;
        }

        boolean isReference() {
            return kind == 4 || kind == 5;
        }

        Node copy() {
            Node node = new Node(kind);
            node.letters = letters;
            node.sheet = sheet;
            node.cell = cell.clone();
            node.dollar = dollar.clone();
            node.value = value;
            for (Node child : children) {
                node.children.add(child.copy());
            }
            return node;
        }

        void lose() {
            kind = 2;
            value = 4;
            sheet = NONE;
            cell = new int[4];
            dollar = new boolean[4];
        }

        void order() {
            for (int k = 0; k < 2; k++) {
                if (cell[k] > cell[k + 2]) {
                    int number = cell[k];
                    cell[k] = cell[k + 2];
                    cell[k + 2] = number;
                    boolean has = dollar[k];
                    dollar[k] = dollar[k + 2];
                    dollar[k + 2] = has;
                }
            }
        }

        List<Node> all() {
            List<Node> nodes = new ArrayList<>();
            nodes.add(this);
            for (Node child : children) {
                nodes.addAll(child.all());
            }
            return nodes;
        }

        int told(int what) {
            switch (what) {
                case 0: return kind;
                case 1: return children.size();
                case 2: return sheet;
                case 7:
                    int sum = 0;
                    for (int k = 0; k < (kind == 5 ? 4 : kind == 4 ? 2 : 0); k++) {
                        sum += dollar[k] ? 1 << k : 0;
                    }
                    return sum;
                case 8: return value;
                default: return cell[what - 3];
            }
        }
    }

    static final class Formula {
        int home;
        Node tree;
    }

    String text = "";
    final List<String> sheets = new ArrayList<>();
    final Formula[] formulas = new Formula[8];

    // ---- texts and sheets

    int type(int word) {
        StringBuilder more = new StringBuilder();
        for (int k = 3; k >= 0; k--) {
            int sign = word >> 8 * k & 255;
            if (sign != 0) {
                if (sign < 32 || sign > 126) {
                    throw new IllegalArgumentException();
                }
                more.append((char) sign);
            }
        }
        if (text.length() + more.length() > 256) {
            throw new IllegalStateException();
        }
        text += more;
        return text.length();
    }

    private void mustBeName(int of) {
        if (!text.matches("(?!')[ -~&&[^:\\\\/?*\\[\\]]]{1,31}(?<!')") || has(text) && sheetOf(text) != of) {
            throw new IllegalArgumentException();
        }
    }

    private int sheetOf(String name) {
        for (int k = 0; k < sheets.size(); k++) {
            if (sheets.get(k).equalsIgnoreCase(name)) {
                return k;
            }
        }
        return NONE;
    }

    private boolean has(String name) {
        return sheetOf(name) != NONE;
    }

    private void mustBeSheet(int sheet) {
        if (sheet < 0 || sheet >= sheets.size()) {
            throw new IndexOutOfBoundsException();
        }
    }

    private Formula formula(int formula) {
        if (formula < 0 || formula > 7 || formulas[formula] == null) {
            throw new IndexOutOfBoundsException();
        }
        return formulas[formula];
    }

    int sheet() {
        mustBeName(NONE);
        if (sheets.size() == 8) {
            throw new IllegalStateException();
        }
        sheets.add(text);
        return sheets.size() - 1;
    }

    void rename(int sheet) {
        mustBeSheet(sheet);
        mustBeName(sheet);
        sheets.set(sheet, text);
    }

    void drop(int sheet) {
        mustBeSheet(sheet);
        sheets.remove(sheet);
        for (int k = 0; k < 8; k++) {
            if (formulas[k] != null && formulas[k].home == sheet) {
                formulas[k] = null;
            }
            if (formulas[k] != null) {
                formulas[k].home -= formulas[k].home > sheet ? 1 : 0;
                for (Node node : formulas[k].tree.all()) {
                    if (node.sheet == sheet) {
                        node.lose();
                    } else if (node.sheet > sheet) {
                        node.sheet--;
                    }
                }
            }
        }
    }

    int name(int sheet, int k) {
        mustBeSheet(sheet);
        return at(sheets.get(sheet), k);
    }

    private static int at(String signs, int k) {
        return k >= 0 && k < signs.length() ? signs.charAt(k) : NONE;
    }

    int count(int what) {
        if (what < 0 || what > 9) {
            throw new IllegalArgumentException();
        }
        int there = 0;
        for (Formula formula : formulas) {
            there += formula == null ? 0 : 1;
        }
        return what == 0 ? sheets.size() : what == 1 ? there : formulas[what - 2] == null ? NONE : formulas[what - 2].home;
    }

    // ---- reading

    private static final Pattern NUMBER = Pattern.compile("(?:[0-9]+\\.?[0-9]*|\\.[0-9]+)(?:[eE][+-]?[0-9]{1,3})?");
    private static final Pattern TEXT = Pattern.compile("\"(?:[^\"]|\"\")*+\"");
    private static final Pattern ERROR = Pattern.compile("(?i)#(?:NULL!|DIV/0!|VALUE!|REF!|NAME\\?|NUM!|N/A)");
    private static final Pattern PREFIX = Pattern.compile("(?:[A-Za-z_][A-Za-z0-9_.]*|'(?:[^']|'')*+')!");
    private static final Pattern CELL = Pattern.compile("(\\$?)([A-Za-z]{1,3})(\\$?)([1-9][0-9]{0,6})(?![A-Za-z0-9_.(!])");
    private static final Pattern WORD = Pattern.compile("[A-Za-z_][A-Za-z0-9_.]*");
    private static final Pattern BETWEEN = Pattern.compile("<>|<=|>=|[-+*/^&=<>]");
    private static final List<String> ERRORS = List.of("#NULL!", "#DIV/0!", "#VALUE!", "#REF!", "#NAME?", "#NUM!", "#N/A");
    private static final List<String> KINDS = List.of("^", "*", "/", "+", "-", "&", "=", "<>", "<", ">", "<=", ">=");
    private static final List<List<String>> LEVELS = List.of(
        List.of("=", "<>", "<", ">", "<=", ">="), List.of("&"), List.of("+", "-"), List.of("*", "/"), List.of("^"));

    private List<Token> tokens;
    private int next;

    int read(int formula, int home) {
        if (formula < 0 || formula > 7) {
            throw new IndexOutOfBoundsException();
        }
        mustBeSheet(home);
        int place = place();
        if (place == NONE) {
            next = 0;
            formulas[formula] = new Formula();
            formulas[formula].home = home;
            formulas[formula].tree = level(0);
        }
        return place;
    }

    /** Where the text is wrong; its tokens are kept. */
    int place() {
        int place = Ways.place(text);
        tokens = new ArrayList<>();
        split(place == NONE ? text.length() : place);
        int refused = refused();
        return refused != NONE ? refused : place;
    }

    private String match(Pattern pattern, int from) {
        Matcher matcher = pattern.matcher(text);
        return matcher.region(from, text.length()).useTransparentBounds(true).lookingAt() ? matcher.group() : null;
    }

    private String cellAt(int from) {
        String cell = match(CELL, from);
        return cell != null && column(cell) <= 16384 && row(cell) <= 1048576 ? cell : null;
    }

    private static int row(String cell) {
        return Integer.parseInt(cell.replaceAll("[^0-9]", ""));
    }

    private static int column(String cell) {
        int column = 0;
        for (char c : cell.toUpperCase(Locale.ROOT).replaceAll("[^A-Z]", "").toCharArray()) {
            column = 26 * column + c - 'A' + 1;
        }
        return column;
    }

    /** The whole tokens that end before or at a place up to which the text can go on. */
    private void split(int to) {
        int at = 0;
        boolean wantsOperand = true;
        boolean wantsCell = false;
        while (at < to) {
            if (text.charAt(at) == ' ') {
                at++;
                continue;
            }
            Token token = wantsCell ? make("cell", at, cellAt(at)) : wantsOperand ? operandAt(at) : behindAt(at);
            if (token == null) {
                return;
            }
            tokens.add(token);
            at += token.signs.length();
            wantsCell = token.kind.equals("prefix") || token.kind.equals(":");
            wantsOperand = wantsCell || List.of("call", "(", ",", "before", "between").contains(token.kind);
        }
    }

    private static Token make(String kind, int from, String signs) {
        return signs == null ? null : new Token(kind, from, signs);
    }

    private Token operandAt(int at) {
        char c = text.charAt(at);
        if (c == '+' || c == '-') {
            return make("before", at, "" + c);
        }
        if (c == '(' || c == ',' || c == ')') {
            return make(c == ')' ? "close" : "" + c, at, "" + c);
        }
        String number = match(NUMBER, at);
        if (number != null) {
            int end = at + number.length();
            boolean goesOn = end < text.length() && "eE".indexOf(text.charAt(end)) >= 0 && !number.matches(".*[eE].*");
            return goesOn ? null : make("number", at, number);
        }
        for (Pattern pattern : List.of(TEXT, ERROR, PREFIX)) {
            String signs = match(pattern, at);
            if (signs != null) {
                return make(pattern == TEXT ? "text" : pattern == ERROR ? "error" : "prefix", at, signs);
            }
        }
        if (cellAt(at) != null) {
            return make("cell", at, cellAt(at));
        }
        return wordAt(at);
    }

    private Token wordAt(int at) {
        String word = match(WORD, at);
        if (word == null) {
            return null;
        }
        int end = at + word.length();
        char behind = end < text.length() ? text.charAt(end) : ' ';
        // A $ behind a word goes on in a cell that is not whole.
        boolean isCellBegun = behind == '$' && Ways.place(text.substring(at, end + 1)) == end + 1 - at;
        if (isCellBegun) {
            return null;
        }
        return make(behind == '(' ? "call" : "word", at, behind == '(' ? word + "(" : word);
    }

    private Token behindAt(int at) {
        char c = text.charAt(at);
        if (c == '%' || c == ':' || c == ',') {
            return make("" + c, at, "" + c);
        }
        return c == ')' ? make("close", at, ")") : make("between", at, match(BETWEEN, at));
    }

    /** The first token that a limit or a prefix makes wrong, by its first place. */
    private int refused() {
        int nodes = 0;
        int open = 0;
        for (int k = 0; k < tokens.size(); k++) {
            Token token = tokens.get(k);
            String before = k == 0 ? "" : tokens.get(k - 1).kind;
            int from = token.from;
            boolean isNode = List.of("number", "text", "error", "word", "%", "between", "call").contains(token.kind);
            isNode |= token.kind.equals("cell") && !before.equals(":");
            isNode |= token.signs.equals("-") && token.kind.equals("before");
            isNode |= (token.kind.equals(",") || token.kind.equals("close")) && before.equals(",");
            isNode |= token.kind.equals(",") && before.equals("call");
            if (token.kind.equals("cell") && before.equals("prefix")) {
                from = tokens.get(k - 1).from;
            }
            if (token.kind.equals("prefix") && sheetOf(nameIn(token.signs)) == NONE) {
                return from;
            }
            nodes += isNode ? 1 : 0;
            if (nodes > 128) {
                return from;
            }
            open += token.signs.endsWith("(") && !token.kind.equals("text") ? 1 : token.kind.equals("close") ? -1 : 0;
            if (open > 32) {
                return from + token.signs.length() - 1;
            }
        }
        return NONE;
    }

    private static String nameIn(String prefix) {
        String name = prefix.substring(0, prefix.length() - 1);
        return name.startsWith("'") ? name.substring(1, name.length() - 1).replace("''", "'") : name;
    }

    private boolean isNext(String kind) {
        return next < tokens.size() && tokens.get(next).kind.equals(kind);
    }

    private Node level(int level) {
        if (level == LEVELS.size()) {
            return before();
        }
        Node left = level(level + 1);
        while (isNext("between") && LEVELS.get(level).contains(tokens.get(next).signs)) {
            Node node = new Node(11 + KINDS.indexOf(tokens.get(next).signs));
            next++;
            node.children.add(left);
            node.children.add(level(level + 1));
            left = node;
        }
        return left;
    }

    private Node before() {
        if (!isNext("before")) {
            return percent();
        }
        boolean isMinus = tokens.get(next).signs.equals("-");
        next++;
        Node inner = before();
        return isMinus ? over(10, inner) : inner;
    }

    private static Node over(int kind, Node child) {
        Node node = new Node(kind);
        node.children.add(child);
        return node;
    }

    private Node percent() {
        Node node = primary();
        while (isNext("%")) {
            next++;
            node = over(9, node);
        }
        return node;
    }

    private Node primary() {
        Token token = tokens.get(next);
        next++;
        String great = token.signs.toUpperCase(Locale.ROOT);
        switch (token.kind) {
            case "number":
                return lettered(0, great);
            case "text":
                return lettered(1, token.signs.substring(1, token.signs.length() - 1).replace("\"\"", "\""));
            case "error":
                return valued(2, ERRORS.indexOf(great) + 1);
            case "word":
                boolean isTruth = great.equals("TRUE") || great.equals("FALSE");
                return isTruth ? valued(3, great.equals("TRUE") ? 1 : 0) : lettered(6, great);
            case "call":
                return call(great.substring(0, great.length() - 1));
            case "(":
                Node inner = level(0);
                next++;
                return inner;
            case "prefix":
                Node reference = primary();
                reference.sheet = sheetOf(nameIn(token.signs));
                return reference;
            default:
                return reference(token.signs);
        }
    }

    private static Node lettered(int kind, String letters) {
        Node node = new Node(kind);
        node.letters = letters;
        return node;
    }

    private static Node valued(int kind, int value) {
        Node node = new Node(kind);
        node.value = value;
        return node;
    }

    private Node reference(String first) {
        Node node = new Node(4);
        String last = first;
        if (isNext(":")) {
            node.kind = 5;
            last = tokens.get(next + 1).signs;
            next += 2;
        }
        node.cell = new int[] {row(first), column(first), row(last), column(last)};
        node.dollar = new boolean[] {
            first.lastIndexOf('$') > 0, first.startsWith("$"), last.lastIndexOf('$') > 0, last.startsWith("$")};
        node.order();
        return node;
    }

    private Node call(String word) {
        Node node = lettered(7, word);
        if (isNext("close")) {
            next++;
            return node;
        }
        boolean more = true;
        while (more) {
            node.children.add(isNext(",") || isNext("close") ? new Node(8) : level(0));
            more = isNext(",");
            next++;
        }
        return node;
    }

    // ---- trees that are there

    void move(int formula, int rows, int columns, int home, int to) {
        if (to < 0 || to > 7) {
            throw new IndexOutOfBoundsException();
        }
        Node tree = formula(formula).tree.copy();
        mustBeSheet(home);
        if (Math.abs((long) rows) > 1048576 || Math.abs((long) columns) > 1048576) {
            throw new IllegalArgumentException();
        }
        for (Node node : tree.all()) {
            if (node.isReference()) {
                boolean isLost = false;
                for (int k = 0; k < 4; k++) {
                    node.cell[k] += node.dollar[k] ? 0 : k % 2 == 0 ? rows : columns;
                    isLost |= node.cell[k] < 1 || node.cell[k] > (k % 2 == 0 ? 1048576 : 16384);
                }
                if (isLost) {
                    node.lose();
                } else {
                    node.order();
                }
            }
        }
        formulas[to] = new Formula();
        formulas[to].home = home;
        formulas[to].tree = tree;
    }

    int shift(int sheet, boolean rows, int k, int n) {
        mustBeSheet(sheet);
        int most = rows ? 1048576 : 16384;
        if (k < 1 || k > most || Math.abs((long) n) > 1048576) {
            throw new IllegalArgumentException();
        }
        int lost = 0;
        for (Formula formula : formulas) {
            for (Node node : formula == null ? List.<Node>of() : formula.tree.all()) {
                int on = node.sheet == NONE && formula.home == sheet ? sheet : node.sheet;
                if (node.isReference() && on == sheet && isLostBy(node, rows ? 0 : 1, k, n, most)) {
                    node.lose();
                    lost++;
                }
            }
        }
        return lost;
    }

    /** The first and the last that are not taken out are looked for and put where they come to be. */
    private static boolean isLostBy(Node node, int side, int k, int n, int most) {
        int first = node.cell[side];
        int last = node.cell[side + 2];
        int end = n < 0 ? k - n : k;
        if (first >= k && first < end) {
            first = end;
        }
        if (last >= k && last < end) {
            last = k - 1;
        }
        if (first > last) {
            return true;
        }
        first += first >= k ? n : 0;
        last += last >= k ? n : 0;
        node.cell[side] = first;
        node.cell[side + 2] = Math.min(last, most);
        return first > most;
    }

    void remove(int formula) {
        formula(formula);
        formulas[formula] = null;
    }

    int size(int formula) {
        return formula(formula).tree.all().size();
    }

    private Node nodeOf(int formula, int node) {
        List<Node> all = formula(formula).tree.all();
        if (node < 0 || node >= all.size()) {
            throw new IndexOutOfBoundsException();
        }
        return all.get(node);
    }

    int node(int formula, int node, int what) {
        Node of = nodeOf(formula, node);
        if (what < 0 || what > 8) {
            throw new IllegalArgumentException();
        }
        return of.told(what);
    }

    int letter(int formula, int node, int k) {
        return at(nodeOf(formula, node).letters, k);
    }

    boolean same(int one, int two) {
        List<Node> first = formula(one).tree.all();
        List<Node> second = formula(two).tree.all();
        boolean same = first.size() == second.size();
        for (int k = 0; same && k < first.size(); k++) {
            same = first.get(k).letters.equals(second.get(k).letters);
            for (int what = 0; what <= 8; what++) {
                same &= first.get(k).told(what) == second.get(k).told(what);
            }
        }
        return same;
    }

    // ---- the form

    int form(int formula, int k) {
        return at(form(formula(formula).tree), k);
    }

    String formOf(int formula) {
        return form(formula(formula).tree);
    }

    /** The level of LEVELS at which a node is made, behind it those of - before, % and primaries. */
    private static int levelOf(Node node) {
        if (node.kind < 9) {
            return 7;
        }
        if (node.kind < 11) {
            return node.kind == 9 ? 6 : 5;
        }
        String sign = KINDS.get(node.kind - 11);
        int level = 0;
        while (!LEVELS.get(level).contains(sign)) {
            level++;
        }
        return level;
    }

    private String child(Node node, int k, int least) {
        Node child = node.children.get(k);
        return levelOf(child) < least ? "(" + form(child) + ")" : form(child);
    }

    private String form(Node node) {
        switch (node.kind) {
            case 0: case 6:
                return node.letters;
            case 1:
                return "\"" + node.letters.replace("\"", "\"\"") + "\"";
            case 2:
                return ERRORS.get(node.value - 1);
            case 3:
                return node.value == 1 ? "TRUE" : "FALSE";
            case 4: case 5:
                return prefix(node) + cell(node, 0) + (node.kind == 5 ? ":" + cell(node, 2) : "");
            case 7:
                List<String> parts = new ArrayList<>();
                for (Node child : node.children) {
                    parts.add(form(child));
                }
                return node.letters + "(" + String.join(",", parts) + ")";
            case 8:
                return "";
            case 9:
                return child(node, 0, 6) + "%";
            case 10:
                return "-" + child(node, 0, 5);
            default:
                int level = levelOf(node);
                return child(node, 0, level) + KINDS.get(node.kind - 11) + child(node, 1, level + 1);
        }
    }

    private String prefix(Node node) {
        if (node.sheet == NONE) {
            return "";
        }
        String name = sheets.get(node.sheet);
        boolean plain = name.matches("[A-Za-z_][A-Za-z0-9_.]*") && !name.matches("(?i)TRUE|FALSE|[A-Z]{1,3}[0-9]+");
        return (plain ? name : "'" + name.replace("'", "''") + "'") + "!";
    }

    private static String cell(Node node, int from) {
        String letters = "";
        for (int rest = node.cell[from + 1]; rest > 0; rest = (rest - 1) / 26) {
            letters = (char) ('A' + (rest - 1) % 26) + letters;
        }
        return (node.dollar[from + 1] ? "$" : "") + letters + (node.dollar[from] ? "$" : "") + node.cell[from];
    }
}
