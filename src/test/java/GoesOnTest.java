import java.util.regex.Matcher;
import java.util.regex.Pattern;

/**
 * Promise 7: "It is WRONG at the first place .. whose character does not go on so that some formula
 * could come of it, or at its end". No model tells the place here: what stands before it can be ended
 * so that it is read, and with the character at it no end makes it read.
 */
public final class GoesOnTest {
    private static final Pattern PREFIX = Pattern.compile("(?:[A-Za-z_][A-Za-z0-9_.]*|'(?:[^']|'')*')!");
    /** What ends any token that is begun, an error's name among them, or is an operand where one is wanted. */
    private static final String[] ENDS = {
        "", "1", "A1", "\"", "!A1", "'!A1", "REF!", "EF!", "F!", "!", "NULL!", "ULL!", "LL!", "L!", "DIV/0!", "IV/0!", "V/0!", "/0!", "0!",
        "ALUE!", "LUE!", "UE!", "E!", "AME?", "ME?", "E?", "?", "M!", "/A", "A"
    };
    /** So short that no limit of nodes and brackets is near, whatever the end. */
    private static final int LONGEST = 90;
    private static final int MOST_BRACKETS = 12;

    private int wrong = 0;

    private GoesOnTest() {
    }

    public static void main(String[] args) {
        GoesOnTest test = new GoesOnTest();
        for (String text : new String[] {
            "", " ", "1E", "1.5.", "$A$1(", "A$1.x", "XFE$1", "$XFE1", "A1:B2:", "A1:S!B2", "S!A1(", "S! A1", "''!A1", "''", "'S", "'zz'", "zz!A1", "f(1",
            "f(" + "1,".repeat(30), "f(" + ",".repeat(30), "f(+,1)", "(,)", "1<>=2", "#NUX", "#N/Ax", "\"a\"\"", "TRUE!A1", "A1!A1", "1%2", "(A1):B2"}) {
            test.hold(text);
        }
        Texts texts = new Texts(31);
        for (int round = 0; round < 20000; round++) {
            test.hold(round % 3 == 0 ? texts.soup() : texts.faulty(texts.below(4)));
        }
        System.out.println(test.wrong + " texts are wrong");
        Check.end();
    }

    private void hold(String text) {
        if (text.length() > LONGEST || brackets(text) > MOST_BRACKETS) {
            return;
        }
        int place = read(text);
        if (place == -1) {
            return;
        }
        wrong++;
        if (!goesOn(text.substring(0, place))) {
            Check.fault("<" + text + "> is wrong before " + place);
        }
        // A prefix that is no sheet's name is wrong at once, but of another name there a formula could come.
        boolean isMore = place < text.length() && strangerEnd(text, place) == -1;
        if (isMore && goesOn(text.substring(0, place + 1))) {
            Check.fault("<" + text + "> is not wrong yet at " + place);
        }
    }

    private static int brackets(String text) {
        return (int) text.chars().filter(sign -> sign == '(').count();
    }

    private static int read(String text) {
        return Book.place(text, "S", "Two x", "It's", "A1");
    }

    /** Where a prefix that stands at a place and is no sheet's name ends, or -1. */
    private static int strangerEnd(String text, int place) {
        Matcher prefix = PREFIX.matcher(text).region(place, text.length());
        return prefix.lookingAt() && read(prefix.group() + "A1") == 0 ? prefix.end() : -1;
    }

    private static boolean goesOn(String beginning) {
        int open = brackets(beginning);
        for (String end : ENDS) {
            for (int close = 0; close <= open; close++) {
                if (isFormula(beginning + end + ")".repeat(close))) {
                    return true;
                }
            }
        }
        return false;
    }

    /** Whether a text is read when each prefix in it is a sheet's name. */
    private static boolean isFormula(String text) {
        String now = text;
        int place = read(now);
        int end = place == -1 ? -1 : strangerEnd(now, place);
        while (end != -1) {
            // The space keeps the name from becoming a part of a word before it.
            now = now.substring(0, place) + " S!" + now.substring(end);
            place = read(now);
            end = place == -1 ? -1 : strangerEnd(now, place);
        }
        return place == -1;
    }
}
