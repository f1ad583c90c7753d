import java.util.Random;

/** Random texts: formulas, formulas with faults, names of sheets, and any characters. */
final class Texts {
    private static final String[] SIGNS = {"^", "*", "/", "+", "-", "&", "=", "<>", "<", ">", "<=", ">="};
    private static final String[] PRIMARIES = {
        "1", "20", "2.5e3", ".5", "7.", "1E-003", "\"a\"\"B\"", "\"\"", "\"(,'\"", "#n/a", "#REF!", "#Div/0!", "#NULL!", "#num!",
        "tRue", "FALSE", "true.", "a1", "$b$2", "XFD1048576", "$A1", "A$1", "C$3:$a4", "A1:A1", "$B$2:b2", "Z9:aa10",
        "XFE1", "A0", "A1048577", "name", "x_1.", "_", "ab", "A1:xfd1048576"
    };
    private static final String[] NAMES = {
        "S", "s", "T", "Two x", "It's", "A1", "abc", "TRUE", "a''b", "R1C1", "XFE01", "_x.1", "9", " ", "~!", "ab12345678"
    };
    private static final String SOUP = "1.eA$S!:(,)+-<>=%\"'# N/_x";

    private final Random random;

    Texts(long seed) {
        random = new Random(seed);
    }

    int below(int bound) {
        return random.nextInt(bound);
    }

    private String one(String[] of) {
        return of[below(of.length)];
    }

    String name() {
        switch (below(12)) {
            case 0:
                return "'" + one(NAMES);
            case 1:
                return one(NAMES) + "'";
            case 2:
                return one(NAMES) + ":\\/?*[]".charAt(below(7));
            case 3:
                return "n".repeat(below(34));
            default:
                return one(NAMES);
        }
    }

    private String prefix() {
        String name = one(NAMES);
        boolean isWord = name.matches("[A-Za-z_][A-Za-z0-9_.]*");
        return (isWord && below(2) == 0 ? name : "'" + name.replace("'", "''") + "'") + "!";
    }

    private String space() {
        return below(8) == 0 ? " " : "";
    }

    String formula(int depth) {
        int choice = below(depth <= 0 ? 3 : 12);
        switch (choice) {
            case 0: case 1:
                return space() + one(PRIMARIES) + space();
            case 2:
                return space() + prefix() + (below(2) == 0 ? "a$1" : "$B2:A7") + space();
            case 3:
                return space() + "(" + formula(depth - 1) + ")";
            case 4:
                return space() + (below(3) == 0 ? "+" : "-") + formula(depth - 1);
            case 5:
                return formula(depth - 1) + "%";
            case 6:
                return call(depth);
            default:
                return formula(depth - 1) + one(SIGNS) + formula(depth - 1);
        }
    }

    private String call(int depth) {
        StringBuilder out = new StringBuilder(one(new String[] {"sum(", "A1(", "TRUE(", "_.("}));
        int arguments = below(20) == 0 ? 28 + below(4) : below(4);
        for (int k = 0; k < arguments; k++) {
            out.append(k == 0 ? "" : ",").append(below(3) == 0 ? space() : formula(arguments > 5 ? 0 : depth - 1));
        }
        return out.append(space()).append(')').toString();
    }

    /** A formula of which some characters are taken out, put in, or changed. */
    String faulty(int depth) {
        StringBuilder text = new StringBuilder(formula(depth));
        for (int faults = below(3); faults >= 0 && text.length() > 0; faults--) {
            int at = below(text.length());
            switch (below(4)) {
                case 0:
                    text.deleteCharAt(at);
                    break;
                case 1:
                    text.insert(at, SOUP.charAt(below(SOUP.length())));
                    break;
                case 2:
                    text.setCharAt(at, SOUP.charAt(below(SOUP.length())));
                    break;
                default:
                    text.setLength(at + below(2));
            }
        }
        return text.toString();
    }

    String soup() {
        StringBuilder text = new StringBuilder();
        for (int k = below(9); k >= 0; k--) {
            text.append(below(10) == 0 ? (char) (32 + below(95)) : SOUP.charAt(below(SOUP.length())));
        }
        return text.toString();
    }

    /** A beginning with so many nodes and brackets that a limit is near. */
    String atLimit(int depth) {
        switch (below(5)) {
            case 0:
                return "-".repeat(115 + below(14)) + faulty(depth);
            case 1:
                return "1+".repeat(56 + below(9)) + faulty(depth);
            case 2:
                return "(".repeat(28 + below(6)) + faulty(depth);
            case 3:
                return "f(".repeat(28 + below(6)) + faulty(depth);
            default:
                return "f(" + "1&".repeat(50 + below(14)) + "1," + formula(0) + "," + faulty(depth);
        }
    }

    /** Any text of at most 256 characters that is read or may be wrong. */
    String any() {
        String text;
        switch (below(6)) {
            case 0: case 1:
                text = formula(below(6));
                break;
            case 2: case 3:
                text = faulty(below(5));
                break;
            case 4:
                text = atLimit(below(4));
                break;
            default:
                text = soup();
        }
        return text.length() > 256 ? text.substring(0, 256) : text;
    }
}
