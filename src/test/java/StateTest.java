/** Promises 1 to 3 and 16: a new object, type, erase and count. */
public final class StateTest {
    private StateTest() {
    }

    public static void main(String[] args) {
        aNewObject();
        type();
        erase();
        count();
        Check.end();
    }

    private static void aNewObject() {
        FormulaTrees x = new FormulaTrees();
        Check.due("NONE", FormulaTrees.NONE, -1);
        Check.due("sheets of a new object", x.count(0), 0);
        Check.due("formulas of a new object", x.count(1), 0);
        for (int what = 2; what <= 9; what++) {
            Check.due("home of a new object, count " + what, x.count(what), -1);
        }
        Check.due("text of a new object", x.type(0), 0);
        Check.index("name", () -> x.name(0, 0));
        Check.index("size", () -> x.size(0));
        Check.index("read", () -> x.read(0, 0));
        Check.argument("sheet", () -> x.sheet());
    }

    private static void type() {
        FormulaTrees x = new FormulaTrees();
        Check.due("type(0)", x.type(0), 0);
        Check.due("one byte", x.type('A'), 1);
        Check.due("bytes with 0 between", x.type('B' << 24 | 'C'), 3);
        Check.due("the highest byte alone", x.type('~' << 24), 4);
        Check.due("four bytes", x.type(0x20202020), 8);
        Check.due("four more", x.type('W' << 24 | 'X' << 16 | 'Y' << 8 | 'Z'), 12);
        x.sheet();
        Check.due("order of the bytes", Book.name(x, 0), "ABC~    WXYZ");
        int[] bad = {1, 31, 127, 128, 255, 0x41414101, 0x1F000000, 0x7F414141, -1, 0x80000000, 0x41800041};
        for (int word : bad) {
            Check.argument("type(" + word + ")", () -> x.type(word));
        }
        Check.due("the text behind wrong words", x.type(0), 12);
        for (int k = 12; k < 252; k += 4) {
            x.type(0x31313131);
        }
        Check.due("255 characters", x.type(0x313131), 255);
        Check.state("257 characters", () -> x.type(0x3131));
        Check.argument("257 characters, one wrong", () -> x.type(0x3101));
        Check.due("256 characters", x.type(0x31000000), 256);
        Check.due("no more character", x.type(0), 256);
        Check.state("257 characters by one", () -> x.type(0x31));
        Check.due("256 characters stay", x.type(0), 256);
    }

    private static void erase() {
        FormulaTrees x = Book.of("S");
        Check.due("the text stays behind sheet()", x.type(0), 1);
        Book.read(x, 0, 0, "1+");
        Check.due("the text stays behind read", x.type(0), 2);
        Check.due("the text goes on", x.type('2'), 3);
        Check.due("what is read then", x.read(0, 0), -1);
        x.erase();
        Check.due("erased", x.type(0), 0);
        Check.due("the formula stays", Book.form(x, 0), "1+2");
        x.erase();
        Check.due("erased twice", x.type('3'), 1);
        Check.due("only the new text is read", x.read(0, 0), -1);
        Check.due("its form", Book.form(x, 0), "3");
    }

    private static void count() {
        FormulaTrees x = Book.of("S", "T", "U");
        Book.read(x, 0, 2, "1");
        Book.read(x, 7, 0, "1");
        Book.read(x, 3, 1, "1");
        Book.read(x, 3, 2, "2");
        Book.read(x, 4, 2, "2+");
        int[] due = {3, 3, 2, -1, -1, 2, -1, -1, -1, 0};
        for (int what = 0; what <= 9; what++) {
            Check.due("count(" + what + ")", x.count(what), due[what]);
        }
        for (int what : new int[] {-1, 10, Integer.MIN_VALUE, Integer.MAX_VALUE}) {
            Check.argument("count(" + what + ")", () -> x.count(what));
        }
    }
}
