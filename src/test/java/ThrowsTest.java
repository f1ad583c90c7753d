/** "A call that throws changes nothing; where several exceptions that a call names fit, the one named first is thrown." */
public final class ThrowsTest {
    private static final int[] NO_SHEET = {-1, 2, 3, 7, 8, 9, Integer.MIN_VALUE, Integer.MAX_VALUE};
    private static final int[] NO_FORMULA = {-1, 1, 2, 3, 4, 5, 6, 8, 9, Integer.MIN_VALUE, Integer.MAX_VALUE};
    private static final int[] NO_PLACE = {-1, 8, 9, Integer.MIN_VALUE, Integer.MAX_VALUE};
    private static final int[] NO_WAY = {1048577, -1048577, Integer.MAX_VALUE, Integer.MIN_VALUE};
    private static final int[] NO_NODE = {-1, 4, 128, Integer.MIN_VALUE, Integer.MAX_VALUE};
    private static final int[] NO_WHAT = {-1, 9, 10, Integer.MIN_VALUE, Integer.MAX_VALUE};

    private interface Call {
        void on(FormulaTrees x);
    }

    private ThrowsTest() {
    }

    public static void main(String[] args) {
        typing();
        sheets();
        reading();
        moving();
        shifting();
        asking();
        withNothing();
        Check.end();
    }

    /** Sheets 0 and 1, formulas 0 and 7, and a text that is a name and a formula. */
    private static FormulaTrees book(String text) {
        FormulaTrees x = Book.of("S", "T");
        Book.read(x, 0, 1, "f(A1,T!B$2)");
        x.move(0, 1, 1, 0, 7);
        Book.read(x, 7, 0, "-\"a\"+S!A1:B2");
        Book.text(x, text);
        return x;
    }

    private static String all(FormulaTrees x) {
        StringBuilder out = new StringBuilder();
        for (int what = 0; what <= 9; what++) {
            out.append(' ').append(x.count(what));
        }
        out.append('|').append(Book.name(x, 0)).append('|').append(Book.name(x, 1));
        for (int formula = 0; formula <= 7; formula += 7) {
            out.append('|').append(Book.form(x, formula)).append('|').append(Book.tree(x, formula));
        }
        return out.toString();
    }

    private static final String BEFORE = all(book("Text"));

    /** All is as it was, the text too. */
    private static void stays(String name, FormulaTrees x, String text) {
        Check.due("the text's length behind " + name, x.type(0), text.length());
        Check.due("all behind " + name, all(x), BEFORE);
    }

    private static void index(String name, Call call) {
        FormulaTrees x = book("Text");
        Check.index(name, () -> call.on(x));
        stays(name, x, "Text");
    }

    private static void argument(String name, Call call) {
        FormulaTrees x = book("Text");
        Check.argument(name, () -> call.on(x));
        stays(name, x, "Text");
    }

    private static void typing() {
        for (int sign = 1; sign <= 255; sign++) {
            for (int bits = 0; bits < 32; bits += 8) {
                int word = sign << bits | (bits == 0 ? 0x41424300 : bits == 8 ? 0x41420043 : bits == 16 ? 0x41004243 : 0x414243);
                FormulaTrees x = Book.of("S");
                if (sign >= 32 && sign <= 126) {
                    Check.due("type(" + word + ")", x.type(word), 5);
                } else {
                    Check.argument("type(" + word + ")", () -> x.type(word));
                    Check.due("the text behind type(" + word + ")", x.type(0), 1);
                }
            }
        }
        String full = Book.times("x", 254);
        FormulaTrees x = book(full);
        Check.state("three more than 254", () -> x.type(0x313233));
        Check.state("four more than 254", () -> x.type(0x31323334));
        Check.argument("three more, one of them wrong", () -> x.type(0x31327F));
        Check.argument("three more, the first of them wrong", () -> x.type(0x1F313233));
        stays("a word that is too long", x, full);
        Check.due("two more", x.type(0x31000032), 256);
        Check.state("one more", () -> x.type(0x31));
        Check.state("one more, by the highest byte", () -> x.type(0x31000000));
        Check.argument("one more, a wrong one", () -> x.type(0x01));
        Check.due("none more", x.type(0), 256);
        Check.due("what is read then", x.read(1, 0), -1);
        Check.due("the last but one", x.letter(1, 0, 254), '1');
        Check.due("the last", x.letter(1, 0, 255), '2');
    }

    private static void sheets() {
        for (String name : new String[] {"", "s", "T", "a:b", "'a", Book.times("n", 32)}) {
            FormulaTrees x = book(name);
            Check.argument("sheet as <" + name + ">", () -> x.sheet());
            Check.index("rename(2) as <" + name + ">", () -> x.rename(2));
            Check.index("rename(-1) as <" + name + ">", () -> x.rename(-1));
            if (!name.equals("s")) {
                Check.argument("rename(0) as <" + name + ">", () -> x.rename(0));
            }
            if (!name.equals("T")) {
                Check.argument("rename(1) as <" + name + ">", () -> x.rename(1));
            }
            stays("wrong names", x, name);
        }
        for (int sheet : NO_SHEET) {
            index("rename(" + sheet + ")", x -> x.rename(sheet));
            index("drop(" + sheet + ")", x -> x.drop(sheet));
            index("name(" + sheet + ", 0)", x -> x.name(sheet, 0));
            index("name(" + sheet + ", -1)", x -> x.name(sheet, -1));
        }
        FormulaTrees x = book("a");
        for (int k = 2; k < 8; k++) {
            x.sheet();
            x.type('b');
        }
        Check.state("a ninth sheet", () -> x.sheet());
        x.type(':');
        Check.argument("a ninth sheet with no name", () -> x.sheet());
        Book.text(x, "S");
        Check.argument("a ninth sheet with another one's name", () -> x.sheet());
        Check.due("eight sheets", x.count(0), 8);
        Check.due("the last one's name", Book.name(x, 7), "abbbbb");
    }

    private static void reading() {
        for (int formula : NO_PLACE) {
            index("read(" + formula + ", 0)", x -> x.read(formula, 0));
            index("read(" + formula + ", 2)", x -> x.read(formula, 2));
        }
        for (int sheet : NO_SHEET) {
            index("read(0, " + sheet + ")", x -> x.read(0, sheet));
            index("read(3, " + sheet + ")", x -> x.read(3, sheet));
        }
        String[] wrong = {"", "1+", "f(1,2", "1 2", "U!A1", "f(A1,T!B$2", Book.times("-", 129), Book.times("(", 33)};
        for (String text : wrong) {
            for (int formula = 0; formula <= 7; formula++) {
                FormulaTrees x = book(text);
                Check.due("wrong text <" + text + ">", x.read(formula, 0) >= 0, true);
                stays("wrong text <" + text + ">", x, text);
            }
        }
    }

    private static void moving() {
        for (int to : NO_PLACE) {
            index("move to " + to, x -> x.move(0, 0, 0, 0, to));
            index("move to " + to + " too far", x -> x.move(0, 1048577, 0, 0, to));
        }
        for (int formula : NO_FORMULA) {
            index("move of " + formula, x -> x.move(formula, 0, 0, 0, 0));
            index("move of " + formula + " to itself", x -> x.move(formula, 0, 0, 0, formula));
            index("move of " + formula + " too far", x -> x.move(formula, 0, -1048577, 0, 0));
        }
        for (int sheet : NO_SHEET) {
            index("move home to " + sheet, x -> x.move(0, 0, 0, sheet, 7));
            index("move home to " + sheet + " too far", x -> x.move(0, 0, 1048577, sheet, 7));
        }
        for (int way : NO_WAY) {
            argument("move by rows " + way, x -> x.move(0, way, 0, 0, 7));
            argument("move by columns " + way, x -> x.move(0, 0, way, 0, 7));
            argument("move by both " + way, x -> x.move(0, way, way, 0, 0));
            argument("move to a new place by rows " + way, x -> x.move(7, way, 1, 1, 3));
        }
    }

    private static void shifting() {
        for (int sheet : NO_SHEET) {
            index("shift of " + sheet, x -> x.shift(sheet, true, 1, 1));
            index("shift of " + sheet + ", no row", x -> x.shift(sheet, true, 0, 1));
            index("shift of " + sheet + ", too far", x -> x.shift(sheet, false, 1, 1048577));
        }
        for (int k : new int[] {0, -1, 1048577, Integer.MIN_VALUE, Integer.MAX_VALUE}) {
            argument("shift at row " + k, x -> x.shift(0, true, k, 1));
            argument("shift at row " + k, x -> x.shift(1, true, k, 0));
            argument("shift at column " + k, x -> x.shift(0, false, k, -1));
        }
        argument("shift at column 16385", x -> x.shift(0, false, 16385, 1));
        argument("shift at column 1048576", x -> x.shift(0, false, 1048576, 1));
        for (int n : NO_WAY) {
            argument("shift by " + n + " rows", x -> x.shift(0, true, 1, n));
            argument("shift by " + n + " columns", x -> x.shift(1, false, 1, n));
        }
    }

    private static void asking() {
        for (int formula : NO_FORMULA) {
            index("remove(" + formula + ")", x -> x.remove(formula));
            index("form(" + formula + ", 0)", x -> x.form(formula, 0));
            index("form(" + formula + ", -1)", x -> x.form(formula, -1));
            index("size(" + formula + ")", x -> x.size(formula));
            index("node(" + formula + ", 0, 0)", x -> x.node(formula, 0, 0));
            index("node(" + formula + ", 0, 9)", x -> x.node(formula, 0, 9));
            index("letter(" + formula + ", 0, 0)", x -> x.letter(formula, 0, 0));
            index("same(" + formula + ", 0)", x -> x.same(formula, 0));
            index("same(0, " + formula + ")", x -> x.same(0, formula));
            index("same of " + formula + " and itself", x -> x.same(formula, formula));
        }
        for (int node : NO_NODE) {
            index("node(7, " + node + ", 0)", x -> x.node(7, node, 0));
            index("node(7, " + node + ", 9)", x -> x.node(7, node, 9));
            index("letter(7, " + node + ", 0)", x -> x.letter(7, node, 0));
            index("letter(7, " + node + ", -1)", x -> x.letter(7, node, -1));
        }
        index("node(0, 3, 0)", x -> x.node(0, 3, 0));
        index("letter(0, 3, 0)", x -> x.letter(0, 3, 0));
        for (int what : NO_WHAT) {
            argument("node(0, 0, " + what + ")", x -> x.node(0, 0, what));
        }
        for (int what : new int[] {-1, 10, 11, Integer.MIN_VALUE, Integer.MAX_VALUE}) {
            argument("count(" + what + ")", x -> x.count(what));
        }
    }

    /** A new object has none of all that could be asked for. */
    private static void withNothing() {
        FormulaTrees x = new FormulaTrees();
        for (int k = 0; k < 8; k++) {
            int none = k;
            Check.index("drop", () -> x.drop(none));
            Check.index("rename", () -> x.rename(none));
            Check.index("name", () -> x.name(none, 0));
            Check.index("read", () -> x.read(none, 0));
            Check.index("move", () -> x.move(none, 0, 0, 0, none));
            Check.index("shift", () -> x.shift(none, true, 1, 1));
            Check.index("remove", () -> x.remove(none));
            Check.index("form", () -> x.form(none, 0));
            Check.index("size", () -> x.size(none));
            Check.index("node", () -> x.node(none, 0, 0));
            Check.index("letter", () -> x.letter(none, 0, 0));
            Check.index("same", () -> x.same(none, none));
        }
        Check.argument("sheet", () -> x.sheet());
        Check.due("no text", x.type(0), 0);
        Check.due("no sheets", x.count(0), 0);
        Check.due("no formulas", x.count(1), 0);
    }
}
