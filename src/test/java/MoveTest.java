/** Promise 8: move. */
public final class MoveTest {
    private MoveTest() {
    }

    public static void main(String[] args) {
        references();
        places();
        wrongInputs();
        Check.end();
    }

    private static void due(String text, int rows, int columns, String form) {
        FormulaTrees x = Book.of("S", "T");
        Check.due("read of " + text, Book.read(x, 0, 0, text), -1);
        String before = Book.form(x, 0);
        x.move(0, rows, columns, 1, 1);
        String call = text + " moved by " + rows + " and " + columns;
        Check.due(call, Book.form(x, 1), form);
        Check.due(call + " leaves", Book.form(x, 0), before);
    }

    private static void references() {
        due("1+x&\"a1\"", 5, 5, "1+X&\"a1\"");
        due("A1", 0, 0, "A1");
        due("A1", 2, 3, "D3");
        due("D3", -2, -3, "A1");
        due("$A1", 2, 3, "$A3");
        due("A$1", 2, 3, "D$1");
        due("$A$1", 1048576, -1048576, "$A$1");
        due("T!A1+S!B2+C3", 1, 1, "T!B2+S!C3+D4");
        due("A1", -1, 0, "#REF!");
        due("A1", 0, -1, "#REF!");
        due("T!A1", -1, 0, "#REF!");
        due("A1", 1048575, 16383, "XFD1048576");
        due("A1", 1048576, 0, "#REF!");
        due("A1", 0, 16384, "#REF!");
        due("A1048576", -1048576, 0, "#REF!");
        due("XFD1048576", -1048575, -16383, "A1");
        due("$A1", 1, -1, "$A2");
        due("A1:B2", 1, 1, "B2:C3");
        due("A1:B2", -1, 0, "#REF!");
        due("A1:B2", 1048575, 0, "#REF!");
        due("A1:$B$2", 1048575, 0, "A$2:$B1048576");
        due("A1:$B$7", 10, 10, "$B$7:K11");
        due("A1:$B$7", 10, 0, "A$7:$B11");
        due("A1:$B$7", 0, 10, "$B1:K$7");
        due("A1:$B$7", 6, 1, "B7:$B$7");
        due("$A$5:B6", -5, 0, "$A1:B$5");
        due("$A$5:B6", -4, 0, "$A2:B$5");
        due("$A$5:B6", -6, 0, "#REF!");
        due("$A$1:$B$2", 99, 99, "$A$1:$B$2");
        due("f(A1,B2%,-C3)+A1", 0, -1, "F(#REF!,A2%,-B3)+#REF!");
    }

    private static void places() {
        FormulaTrees x = Book.of("S", "T");
        Book.read(x, 0, 0, "A1+T!B2");
        x.move(0, 1, 1, 1, 0);
        Check.due("onto itself", Book.form(x, 0), "B2+T!C3");
        Check.due("its home", x.count(2), 1);
        Check.due("one formula", x.count(1), 1);
        x.move(0, 1, 0, 0, 7);
        Check.due("to 7", Book.form(x, 7), "B3+T!C4");
        Check.due("home of 7", x.count(9), 0);
        Check.due("home of 0", x.count(2), 1);
        Check.due("two formulas", x.count(1), 2);
        Book.read(x, 3, 0, "f(1,2,3)+\"abc\"");
        x.move(7, 0, 0, 1, 3);
        Check.due("in place of another", Book.form(x, 3), "B3+T!C4");
        Check.due("the same tree", x.same(3, 7), true);
        x.move(0, -2, 0, 0, 3);
        Check.due("lost", Book.facts(x, 3, 1), "2 0 -1 0 0 0 0 0 4");
        Check.due("what it came from", Book.form(x, 0), "B2+T!C3");
        x.remove(0);
        x.move(7, 0, 0, 0, 0);
        Check.due("to one that was removed", Book.form(x, 0), "B3+T!C4");
        Book.read(x, 7, 0, "9");
        Check.due("copies are their own", Book.form(x, 0), "B3+T!C4");
    }

    private static void wrongInputs() {
        FormulaTrees x = Book.of("S");
        Book.read(x, 0, 0, "A1");
        int[] far = {1048577, -1048577, Integer.MAX_VALUE, Integer.MIN_VALUE};
        for (int by : far) {
            Check.argument("move by rows " + by, () -> x.move(0, by, 0, 0, 1));
            Check.argument("move by columns " + by, () -> x.move(0, 0, by, 0, 1));
            Check.index("no formula, rows " + by, () -> x.move(1, by, 0, 0, 1));
            Check.index("no sheet, rows " + by, () -> x.move(0, by, 0, 1, 1));
            Check.index("no place, rows " + by, () -> x.move(0, by, 0, 0, 8));
        }
        for (int bad : new int[] {-1, 8, Integer.MAX_VALUE, Integer.MIN_VALUE}) {
            Check.index("formula " + bad, () -> x.move(bad, 0, 0, 0, 1));
            Check.index("sheet " + bad, () -> x.move(0, 0, 0, bad, 1));
            Check.index("to " + bad, () -> x.move(0, 0, 0, 0, bad));
        }
        Check.due("nothing changed", x.count(1), 1);
        Check.due("the form", Book.form(x, 0), "A1");
    }
}
