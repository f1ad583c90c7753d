/**
 * All promises: runs of any calls, with numbers inside and outside of what they may be. Each answer
 * and each exception is held against Model's; as a call that throws leaves Model as it was, what is
 * asked behind it tells whether the object stayed, too.
 */
public final class ModelTest {
    private static final int[] NUMBERS = {
        0, 1, 2, 3, 7, 8, 9, 10, -1, -2, 31, 127, 128, 129, 16383, 16384, 16385, 1048575, 1048576, 1048577, -1048575,
        -1048576, -1048577, Integer.MAX_VALUE, Integer.MIN_VALUE
    };
    private static final String[] CALLS = {
        "type", "text", "text", "text", "name", "erase", "sheet", "sheet", "rename", "drop", "read", "read", "read", "read",
        "move", "move", "shift", "shift", "shift", "remove", "form", "size", "node", "letter", "same", "count", "name of"
    };
    private static final int MOST_CALLS = 512;

    private final Texts texts;
    private final FormulaTrees x = new FormulaTrees();
    private final Model model = new Model();
    private final StringBuilder told = new StringBuilder();
    private int calls = 0;

    private interface Answer {
        long of();
    }

    private ModelTest(Texts texts) {
        this.texts = texts;
    }

    public static void main(String[] args) {
        Texts texts = new Texts(5);
        for (int run = 0; run < 6000; run++) {
            new ModelTest(texts).run();
        }
        Check.end();
    }

    private void run() {
        for (int k = 0; k < 2 + texts.below(3); k++) {
            type(new String[] {"S", "Two x", "It's", "abc", "A1"}[k]);
            compare("sheet()", () -> x.sheet(), () -> model.sheet());
        }
        int changes = 10 + texts.below(40);
        for (int k = 0; k < changes; k++) {
            one(CALLS[texts.below(CALLS.length)]);
        }
        for (int k = 0; calls < MOST_CALLS && k < 10; k++) {
            int what = k;
            compare("count(" + k + ")", () -> x.count(what), () -> model.count(what));
        }
        int first = texts.below(8);
        for (int k = 0; k < 8; k++) {
            askAll((first + k) % 8);
        }
        while (calls < MOST_CALLS - 8) {
            one(CALLS[CALLS.length - 1 - texts.below(7)]);
        }
    }

    /** Numbers that are mostly small and mostly fit. */
    private int number(int fit) {
        return texts.below(6) > 0 ? texts.below(fit) : NUMBERS[texts.below(NUMBERS.length)];
    }

    private int way() {
        return texts.below(3) == 0 ? NUMBERS[texts.below(NUMBERS.length)] : texts.below(9) - 4;
    }

    private void compare(String call, Answer got, Answer due) {
        if (calls >= MOST_CALLS) {
            return;
        }
        calls++;
        String answer = answer(got);
        String want = answer(due);
        told.append(call).append(" -> ").append(want).append("; ");
        if (!answer.equals(want)) {
            Check.fault(call + " answered " + answer + ", due is " + want + " behind " + told);
        }
    }

    private static String answer(Answer call) {
        try {
            return String.valueOf(call.of());
        } catch (RuntimeException e) {
            return "throws " + e.getClass().getSimpleName();
        }
    }

    private void type(String text) {
        compare("erase()", () -> { x.erase(); return 0; }, () -> { model.text = ""; return 0; });
        add(text);
    }

    private void add(String text) {
        told.append('<').append(text).append("> ");
        for (int k = 0; k < text.length(); k += 4) {
            int word = 0;
            for (int i = k; i < k + 4 && i < text.length(); i++) {
                word = word << 8 | text.charAt(i);
            }
            int four = word;
            compare("type(" + four + ")", () -> x.type(four), () -> model.type(four));
        }
    }

    private void one(String call) {
        int a = number(call.equals("read") || call.equals("move") ? 4 : 3);
        int b = number(3);
        int c = number(9);
        switch (call) {
            case "type":
                int word = texts.below(3) == 0 ? 0x41004200 : texts.below(2) == 0 ? 0x1F : 0x7E7E7E7E + texts.below(2);
                compare("type(" + word + ")", () -> x.type(word), () -> model.type(word));
                break;
            case "text":
                if (texts.below(4) == 0) {
                    add(texts.any());
                } else {
                    type(texts.any());
                }
                break;
            case "name":
                type(texts.name());
                break;
            case "erase":
                type("");
                break;
            case "sheet":
                compare("sheet()", () -> x.sheet(), () -> model.sheet());
                break;
            case "rename":
                compare("rename(" + a + ")", () -> { x.rename(a); return 0; }, () -> { model.rename(a); return 0; });
                break;
            case "drop":
                compare("drop(" + a + ")", () -> { x.drop(a); return 0; }, () -> { model.drop(a); return 0; });
                break;
            case "read":
                if (texts.below(3) > 0) {
                    type(texts.any());
                }
                compare("read(" + a + ", " + b + ")", () -> x.read(a, b), () -> model.read(a, b));
                break;
            case "move":
                move(a, b);
                break;
            case "shift":
                shift(a);
                break;
            case "remove":
                compare("remove(" + a + ")", () -> { x.remove(a); return 0; }, () -> { model.remove(a); return 0; });
                break;
            default:
                ask(call, a, b, c);
        }
    }

    private void move(int formula, int home) {
        int rows = way();
        int columns = way();
        int to = number(4);
        compare("move(" + formula + ", " + rows + ", " + columns + ", " + home + ", " + to + ")",
            () -> { x.move(formula, rows, columns, home, to); return 0; },
            () -> { model.move(formula, rows, columns, home, to); return 0; });
    }

    private void shift(int sheet) {
        boolean rows = texts.below(2) == 0;
        int k = 1 + number(9);
        int n = way();
        compare("shift(" + sheet + ", " + rows + ", " + k + ", " + n + ")",
            () -> x.shift(sheet, rows, k, n), () -> model.shift(sheet, rows, k, n));
    }

    private void ask(String call, int a, int b, int c) {
        switch (call) {
            case "form":
                compare("form(" + a + ", " + c + ")", () -> x.form(a, c), () -> model.form(a, c));
                break;
            case "size":
                compare("size(" + a + ")", () -> x.size(a), () -> model.size(a));
                break;
            case "node":
                compare("node(" + a + ", " + b + ", " + c + ")", () -> x.node(a, b, c), () -> model.node(a, b, c));
                break;
            case "letter":
                compare("letter(" + a + ", " + b + ", " + c + ")", () -> x.letter(a, b, c), () -> model.letter(a, b, c));
                break;
            case "same":
                compare("same(" + a + ", " + b + ")", () -> x.same(a, b) ? 1 : 0, () -> model.same(a, b) ? 1 : 0);
                break;
            case "count":
                compare("count(" + c + ")", () -> x.count(c), () -> model.count(c));
                break;
            default:
                compare("name(" + a + ", " + c + ")", () -> x.name(a, c), () -> model.name(a, c));
        }
    }

    /** The form of a formula, and all that is told of some of its nodes. */
    private void askAll(int formula) {
        compare("size(" + formula + ")", () -> x.size(formula), () -> model.size(formula));
        if (model.formulas[formula] == null || calls >= MOST_CALLS) {
            return;
        }
        int length = Math.min(model.formOf(formula).length(), 60);
        for (int k = 0; k <= length; k++) {
            int at = k;
            compare("form(" + formula + ", " + k + ")", () -> x.form(formula, at), () -> model.form(formula, at));
        }
        for (int k = 0; k < 3; k++) {
            int node = texts.below(model.size(formula));
            for (int told = 0; told <= 8; told++) {
                int what = told;
                compare("node(" + formula + ", " + node + ", " + what + ")",
                    () -> x.node(formula, node, what), () -> model.node(formula, node, what));
            }
        }
    }
}
