import java.util.Random;

/**
 * Promises 7, 11, 13 and 15 together: random formulas are read here by the grammar's own levels,
 * and the trees and forms of both must be the same.
 */
public final class RoundTest {
    private static final String[][] LEVELS = {
        {"<>", "<=", ">=", "=", "<", ">"}, {"&"}, {"+", "-"}, {"*", "/"}, {"^"}
    };
    private static final String SIGNS = "^ * / + - & = <> < > <= >=";
    private static final String[] PRIMARIES = {
        "1", "2.5e3", ".5", "\"a\"\"B\"", "\"\"", "#n/a", "#REF!", "tRue", "FALSE", "a1", "$b$2", "C$3:$a4", "s!a1",
        "'two x'!b2:A1", "name", "x_1."
    };
    private static final String[] TREES = {
        "0:1", "0:2.5E3", "0:.5", "1:a\"B", "1", "2=7", "2=4", "3=1", "3=0", "4@-1,1,1,1,1,0", "4@-1,2,2,2,2,3",
        "5@-1,3,1,4,3,3", "4@0,1,1,1,1,0", "5@1,1,1,2,2,0", "6:NAME", "6:X_1."
    };

    private static final Random RANDOM = new Random(4);
    private static String[] tokens;
    private static int next;

    private RoundTest() {
    }

    public static void main(String[] args) {
        for (int round = 0; round < 30000; round++) {
            StringBuilder text = new StringBuilder();
            make(text, 1 + RANDOM.nextInt(5));
            String spaced = text.toString();
            String tight = spaced.replace("\u0001", RANDOM.nextInt(3) == 0 ? " " : "");
            // Longer ones would take more calls than an object is promised.
            if (tight.length() <= 120) {
                compare(tight, spaced);
            }
        }
        Check.end();
    }

    /** A random formula, with the character 1 between its tokens. */
    private static void make(StringBuilder out, int depth) {
        int choice = RANDOM.nextInt(depth <= 0 ? 2 : 12);
        if (choice < 2) {
            out.append(PRIMARIES[RANDOM.nextInt(PRIMARIES.length)]);
        } else if (choice == 2) {
            out.append("(\u0001");
            make(out, depth - 1);
            out.append("\u0001)");
        } else if (choice == 3) {
            out.append(RANDOM.nextInt(3) == 0 ? "+\u0001" : "-\u0001");
            make(out, depth - 1);
        } else if (choice == 4) {
            make(out, depth - 1);
            out.append("\u0001%");
        } else if (choice == 5) {
            makeCall(out, depth);
        } else {
            String[] signs = SIGNS.split(" ");
            make(out, depth - 1);
            out.append('\u0001').append(signs[RANDOM.nextInt(signs.length)]).append('\u0001');
            make(out, depth - 1);
        }
    }

    private static void makeCall(StringBuilder out, int depth) {
        int arguments = RANDOM.nextInt(4);
        out.append("sUm(");
        for (int k = 0; k < arguments; k++) {
            out.append(k == 0 ? "\u0001" : "\u0001,\u0001");
            if (RANDOM.nextInt(4) > 0) {
                make(out, depth - 1);
            }
        }
        out.append("\u0001)");
    }

    private static void compare(String text, String spaced) {
        FormulaTrees x = Book.of("S", "Two x");
        tokens = spaced.split("\u0001+");
        next = 0;
        String due = level(0);
        int place = Book.read(x, 0, 1, text);
        Check.due("read of " + text, place, -1);
        if (place == -1) {
            Check.due("tree of " + text, Book.tree(x, 0), due);
            formIsReadAgain(x, text);
        }
    }

    private static boolean isNext(String token) {
        return next < tokens.length && tokens[next].equals(token);
    }

    private static String level(int rank) {
        if (rank == LEVELS.length) {
            return before();
        }
        String tree = level(rank + 1);
        boolean more = true;
        while (more) {
            more = false;
            for (String sign : LEVELS[rank]) {
                if (!more && isNext(sign)) {
                    next++;
                    tree = kindOf(sign) + "(" + tree + " " + level(rank + 1) + ")";
                    more = true;
                }
            }
        }
        return tree;
    }

    private static int kindOf(String sign) {
        return 11 + java.util.Arrays.asList(SIGNS.split(" ")).indexOf(sign);
    }

    private static String before() {
        if (isNext("-")) {
            next++;
            return "10(" + before() + ")";
        }
        if (isNext("+")) {
            next++;
            return before();
        }
        String tree = primary();
        while (isNext("%")) {
            next++;
            tree = "9(" + tree + ")";
        }
        return tree;
    }

    private static String primary() {
        String token = tokens[next];
        next++;
        if (token.equals("(")) {
            String tree = level(0);
            next++;
            return tree;
        }
        if (token.equals("sUm(")) {
            return call();
        }
        return TREES[java.util.Arrays.asList(PRIMARIES).indexOf(token)];
    }

    private static String call() {
        if (isNext(")")) {
            next++;
            return "7:SUM";
        }
        StringBuilder out = new StringBuilder("7:SUM");
        boolean ended = false;
        for (int k = 0; !ended; k++) {
            out.append(k == 0 ? "(" : " ").append(isNext(",") || isNext(")") ? "8" : level(0));
            ended = isNext(")");
            next++;
        }
        return out.append(")").toString();
    }

    private static void formIsReadAgain(FormulaTrees first, String text) {
        FormulaTrees x = Book.of("S", "Two x");
        Book.read(x, 0, 0, text);
        String form = Book.form(first, 0);
        Check.due("form of " + text, Book.read(x, 1, 0, form), -1);
        Check.due("tree of the form of " + text, x.same(0, 1), true);
        bracketsAreNeeded(text, form);
    }

    private static void bracketsAreNeeded(String text, String form) {
        for (int open = 0; open < form.length(); open++) {
            if (form.charAt(open) == '(' && (open == 0 || !Character.isLetter(form.charAt(open - 1)))) {
                String less = without(form, open);
                FormulaTrees y = Book.of("S", "Two x");
                Book.read(y, 0, 0, text);
                boolean needed = Book.read(y, 1, 0, less) != -1 || !y.same(0, 1);
                Check.due("brackets needed at " + open + " of " + form, needed, true);
            }
        }
    }

    /** A form without the brackets that open at a place. */
    private static String without(String form, int open) {
        int depth = 0;
        int close = open;
        do {
            depth += form.charAt(close) == '(' ? 1 : form.charAt(close) == ')' ? -1 : 0;
            close++;
        } while (depth > 0);
        return form.substring(0, open) + form.substring(open + 1, close - 1) + form.substring(close);
    }
}
