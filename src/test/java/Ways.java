import java.util.HashSet;
import java.util.Set;
import java.util.regex.Matcher;
import java.util.regex.Pattern;

/**
 * The document's grammar character by character: all ways in which a text may be read are followed
 * at once, and the text is wrong where the last of them ends. Limits of nodes and brackets, and
 * which prefixes are names of sheets, are no matter here.
 */
final class Ways {
    private static final Pattern CELL_BEGUN =
        Pattern.compile("\\$?(?:([A-Za-z]{1,3})(?:\\$?(?:([1-9][0-9]{0,6}))?)?)?");
    private static final String[] ERRORS = {"#NULL!", "#DIV/0!", "#VALUE!", "#REF!", "#NAME?", "#NUM!", "#N/A"};

    /** Where a way stands, what it has read of a token, and the brackets that are open: p, or a call's commas. */
    private record Way(String at, String token, String open) {
    }

    private final Set<Way> next = new HashSet<>();
    private String open = "";

    private Ways() {
    }

    /** Where a text is wrong, or -1. */
    static int place(String text) {
        Ways ways = new Ways();
        Set<Way> now = Set.of(new Way("operand", "", ""));
        for (int k = 0; k < text.length(); k++) {
            ways.next.clear();
            for (Way way : now) {
                ways.step(way, text.charAt(k));
            }
            if (ways.next.isEmpty()) {
                return k;
            }
            now = Set.copyOf(ways.next);
        }
        return now.stream().anyMatch(Ways::isWhole) ? -1 : text.length();
    }

    private static boolean isWhole(Way way) {
        boolean ended = switch (way.at) {
            case "behind", "behind cell", "digits", "fraction", "power 1", "power 2", "power 3", "text?", "word" -> true;
            case "cell", "last cell" -> isCell(way.token);
            default -> false;
        };
        return ended && way.open.isEmpty();
    }

    private void go(String at, String token) {
        next.add(new Way(at, token, open));
    }

    private static boolean isDigit(char c) {
        return c >= '0' && c <= '9';
    }

    private static boolean isLetter(char c) {
        return c >= 'A' && c <= 'Z' || c >= 'a' && c <= 'z';
    }

    private static boolean isWordSign(char c) {
        return isLetter(c) || isDigit(c) || c == '_' || c == '.';
    }

    private static boolean isCell(String token) {
        return canBeCell(token) && isDigit(token.charAt(token.length() - 1));
    }

    private static boolean canBeCell(String token) {
        Matcher matcher = CELL_BEGUN.matcher(token);
        if (!matcher.matches()) {
            return false;
        }
        int column = 0;
        for (char c : (matcher.group(1) == null ? "" : matcher.group(1).toUpperCase()).toCharArray()) {
            column = column * 26 + c - 'A' + 1;
        }
        return column <= 16384 && (matcher.group(2) == null || Integer.parseInt(matcher.group(2)) <= 1048576);
    }

    private void step(Way way, char c) {
        open = way.open;
        switch (way.at) {
            case "operand" -> operand(c);
            case "argument" -> argument(c);
            case "behind" -> behind(c, false);
            case "behind cell" -> behind(c, true);
            case "less", "greater" -> sign(way.at, c);
            case "word" -> word(c);
            case "cell", "last cell" -> cell(way, c);
            case "prefixed" -> beginCell("cell", c);
            case "range" -> range(c);
            case "quoted" -> go(c == '\'' ? "quoted?" : "quoted", "");
            case "quoted?" -> quoteEnd(c);
            case "text" -> go(c == '"' ? "text?" : "text", "");
            case "text?" -> textEnd(c);
            case "error" -> error(way.token + c);
            default -> number(way.at, c);
        }
    }

    private void operand(char c) {
        if (c == ' ' || c == '+' || c == '-') {
            go("operand", "");
        } else if (c == '(') {
            open = open + "p";
            go("operand", "");
            open = open.substring(0, open.length() - 1);
        } else if (isDigit(c)) {
            go("digits", "");
        } else if (c == '.') {
            go("dot", "");
        } else if (c == '"') {
            go("text", "");
        } else if (c == '\'') {
            go("quoted", "");
        } else if (c == '#') {
            go("error", "#");
        } else if (isLetter(c) || c == '_') {
            go("word", "");
        }
        beginCell("cell", c);
    }

    private void beginCell(String at, char c) {
        if (canBeCell("" + c)) {
            go(at, "" + c);
        }
    }

    private void argument(char c) {
        if (c == ' ') {
            go("argument", "");
        } else if (c == ',' || c == ')') {
            behind(c, false);
        } else {
            operand(c);
        }
    }

    private void behind(char c, boolean isCell) {
        if (c == ' ') {
            go(isCell ? "behind cell" : "behind", "");
        } else if (c == '%') {
            go("behind", "");
        } else if ("^*/+-&=".indexOf(c) >= 0) {
            go("operand", "");
        } else if (c == '<' || c == '>') {
            go(c == '<' ? "less" : "greater", "");
        } else if (c == ':' && isCell) {
            go("range", "");
        } else if (c == ')' && !open.isEmpty()) {
            open = open.substring(0, open.length() - 1);
            go("behind", "");
        } else if (c == ',' && !open.isEmpty() && !open.endsWith("p")) {
            comma();
        }
    }

    /** Calls have at most 30 arguments, so 29 commas. */
    private void comma() {
        int commas = open.charAt(open.length() - 1) - 'A' + 1;
        if (commas <= 29) {
            open = open.substring(0, open.length() - 1) + (char) ('A' + commas);
            go("argument", "");
        }
    }

    private void sign(String at, char c) {
        if (c == '=' || c == '>' && at.equals("less")) {
            go("operand", "");
        } else {
            operand(c);
        }
    }

    private void word(char c) {
        if (isWordSign(c)) {
            go("word", "");
        } else if (c == '(') {
            open = open + 'A';
            go("argument", "");
        } else if (c == '!') {
            go("prefixed", "");
        } else {
            behind(c, false);
        }
    }

    private void cell(Way way, char c) {
        if (canBeCell(way.token + c)) {
            go(way.at, way.token + c);
        } else if (isCell(way.token) && !isWordSign(c) && c != '(' && c != '!') {
            behind(c, way.at.equals("cell"));
        }
    }

    private void range(char c) {
        if (c == ' ') {
            go("range", "");
        } else {
            beginCell("last cell", c);
        }
    }

    private void quoteEnd(char c) {
        if (c == '\'') {
            go("quoted", "");
        } else if (c == '!') {
            go("prefixed", "");
        }
    }

    private void textEnd(char c) {
        if (c == '"') {
            go("text", "");
        } else {
            behind(c, false);
        }
    }

    private void error(String token) {
        for (String error : ERRORS) {
            if (error.equalsIgnoreCase(token)) {
                go("behind", "");
            } else if (error.startsWith(token.toUpperCase())) {
                go("error", token);
            }
        }
    }

    private void number(String at, char c) {
        boolean hasDigit = !at.equals("dot") && !at.equals("power") && !at.equals("power sign");
        boolean inPower = at.startsWith("power");
        if (isDigit(c) && inPower) {
            int digits = hasDigit ? at.charAt(at.length() - 1) - '0' : 0;
            if (digits < 3) {
                go("power " + (digits + 1), "");
            }
        } else if (isDigit(c)) {
            go(at.equals("digits") ? "digits" : "fraction", "");
        } else if (c == '.' && at.equals("digits")) {
            go("fraction", "");
        } else if ((c == 'e' || c == 'E') && hasDigit && !inPower) {
            go("power", "");
        } else if ((c == '+' || c == '-') && at.equals("power")) {
            go("power sign", "");
        } else if (hasDigit) {
            behind(c, false);
        }
    }
}
