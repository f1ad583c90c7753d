import java.util.HashMap;
import java.util.Map;

/**
 * Promise 7: the place where a text is wrong, held against what read says of whole formulas. The
 * beginning of a text can go on when one of many endings makes a formula of it; a text must be
 * wrong at the first character with which that is no longer so.
 */
public final class PlacesTest {
    private static final String SIGNS = "10.eA$S!:(,)+-<>=%\"# N/_x";
    private static final String[] ENDS = {
        "", "1", "A1", "0", "1A1", "!A1", "\"", "5:A1", "NULL!", "ULL!", "LL!", "L!", "!", "DIV/0!", "IV/0!", "V/0!",
        "/0!", "0!", "VALUE!", "ALUE!", "LUE!", "UE!", "E!", "REF!", "EF!", "F!", "NAME?", "AME?", "ME?", "E?", "?",
        "NUM!", "UM!", "M!", "N/A", "/A", "A"
    };
    private static final String[] SEEDS = {
        "", "f(", "f(1,", "(1", "1E", "$A", "$XF", "XFD", "XFD$", "A104857", "$A104857", "A$104857", "#N", "A1:", "A1:X",
        "S!", "TRUE", "\"a", "1<", "f((", "-", "A1 ", "S!A1:", "$A$1"
    };

    private static FormulaTrees book = Book.of("S");
    private static int reads = 0;
    private static final Map<String, Boolean> KNOWN = new HashMap<>();

    private PlacesTest() {
    }

    public static void main(String[] args) {
        for (String seed : SEEDS) {
            follow(seed, 3);
        }
        System.out.println(KNOWN.size() + " beginnings of texts");
        Check.end();
    }

    private static int read(String text) {
        reads++;
        if (reads % 60 == 0) {
            book = Book.of("S");
        }
        return Book.read(book, 0, 0, text);
    }

    private static boolean canGoOn(String text) {
        return KNOWN.computeIfAbsent(text, PlacesTest::someEndFits);
    }

    private static boolean someEndFits(String text) {
        for (int open = 0; open <= 5; open++) {
            for (String end : ENDS) {
                if (read(text + end + ")".repeat(open)) == -1) {
                    return true;
                }
            }
        }
        return false;
    }

    /** A word before ! that is no sheet's name is wrong at its own first character. */
    private static boolean isStrangePrefix(String text) {
        int from = text.length();
        while (from > 0 && (Character.isLetterOrDigit(text.charAt(from - 1)) || "_.".indexOf(text.charAt(from - 1)) >= 0)) {
            from--;
        }
        return !text.substring(from).equalsIgnoreCase("S");
    }

    private static void follow(String text, int more) {
        int place = read(text);
        if (place != -1) {
            Check.due("place in " + text, place, text.length());
        }
        for (int k = 0; k < SIGNS.length() && more > 0; k++) {
            char sign = SIGNS.charAt(k);
            boolean inText = text.split("\"", -1).length % 2 == 0;
            if (sign == '!' && !inText && isStrangePrefix(text)) {
                continue;
            }
            if (canGoOn(text + sign)) {
                follow(text + sign, more - 1);
            } else {
                Check.due("place in " + text + sign, read(text + sign), text.length());
                Check.due("place in " + text + sign + "1", read(text + sign + "1"), text.length());
                Check.due("place in " + text + sign + "A1)", read(text + sign + "A1)"), text.length());
            }
        }
    }
}
