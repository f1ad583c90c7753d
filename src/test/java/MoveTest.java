/** Promise 8: move. */
public final class MoveTest {
    private MoveTest() {
    }

    public static void main(String[] args) {
        references();
        edgesOfRows();
        edgesOfColumns();
        orderAgain();
        manyReferences();
        places();
        wrongInputs();
        Check.end();
    }

    private static void due(String text, int rows, int columns, String form) {
        FormulaTrees x = Book.of("S", "T");
        Check.due("read of " + text, Book.read(x, 0, 0, text), -1);
        String before = Book.form(x, 0);
        x.move(0, rows, columns, 1, 1);
        String call = text + " moved by " + rows + " and " + columns;
        Check.due(call, Book.form(x, 1), form);
        Check.due(call + " leaves", Book.form(x, 0), before);
    }

    private static void references() {
        due("1+x&\"a1\"", 5, 5, "1+X&\"a1\"");
        due("A1", 0, 0, "A1");
        due("A1", 2, 3, "D3");
        due("D3", -2, -3, "A1");
        due("$A1", 2, 3, "$A3");
        due("A$1", 2, 3, "D$1");
        due("$A$1", 1048576, -1048576, "$A$1");
        due("T!A1+S!B2+C3", 1, 1, "T!B2+S!C3+D4");
        due("A1", -1, 0, "#REF!");
        due("A1", 0, -1, "#REF!");
        due("T!A1", -1, 0, "#REF!");
        due("A1", 1048575, 16383, "XFD1048576");
        due("A1", 1048576, 0, "#REF!");
        due("A1", 0, 16384, "#REF!");
        due("A1048576", -1048576, 0, "#REF!");
        due("XFD1048576", -1048575, -16383, "A1");
        due("$A1", 1, -1, "$A2");
        due("A1:B2", 1, 1, "B2:C3");
        due("A1:B2", -1, 0, "#REF!");
        due("A1:B2", 1048575, 0, "#REF!");
        due("A1:$B$2", 1048575, 0, "A$2:$B1048576");
        due("A1:$B$7", 10, 10, "$B$7:K11");
        due("A1:$B$7", 10, 0, "A$7:$B11");
        due("A1:$B$7", 0, 10, "$B1:K$7");
        due("A1:$B$7", 6, 1, "B7:$B$7");
        due("$A$5:B6", -5, 0, "$A1:B$5");
        due("$A$5:B6", -4, 0, "$A2:B$5");
        due("$A$5:B6", -6, 0, "#REF!");
        due("$A$1:$B$2", 99, 99, "$A$1:$B$2");
        due("f(A1,B2%,-C3)+A1", 0, -1, "F(#REF!,A2%,-B3)+#REF!");
    }

    /** "if one is not 1 .. the last then, the node becomes the error #REF!", of rows. */
    private static void edgesOfRows() {
        due("A5", -4, 0, "A1");
        due("A5", -5, 0, "#REF!");
        due("A5", -1048576, 0, "#REF!");
        due("A1048570", 6, 0, "A1048576");
        due("A1048570", 7, 0, "#REF!");
        due("A1048576", 1048576, 0, "#REF!");
        due("A1048576", -1048575, 0, "A1");
        due("A$1", -1048576, 0, "A$1");
        due("A$1048576", 1048576, 0, "A$1048576");
        due("A2:B5", -1, 0, "A1:B4");
        due("A2:B5", -2, 0, "#REF!");
        due("A2:B5", 1048571, 0, "A1048573:B1048576");
        due("A2:B5", 1048572, 0, "#REF!");
        due("A$2:B5", -5, 0, "#REF!");
        due("A$2:B5", 1048572, 0, "#REF!");
        due("A2:B$5", -2, 0, "#REF!");
        due("A2:B$5", 1048574, 0, "A$5:B1048576");
        due("A2:B$5", 1048575, 0, "#REF!");
        due("A$2:B$5", -1048576, 0, "A$2:B$5");
        due("S!A1+T!A1:A2", -1, 0, "#REF!+#REF!");
    }

    /** The same of columns. */
    private static void edgesOfColumns() {
        due("E1", 0, -4, "A1");
        due("E1", 0, -5, "#REF!");
        due("XFA1", 0, 3, "XFD1");
        due("XFA1", 0, 4, "#REF!");
        due("A1", 0, 16383, "XFD1");
        due("A1", 0, 16384, "#REF!");
        due("A1", 0, 1048576, "#REF!");
        due("XFD1", 0, -16383, "A1");
        due("XFD1", 0, -16384, "#REF!");
        due("XFD1", 0, -1048576, "#REF!");
        due("$XFD1", 1, 1048576, "$XFD2");
        due("$A1", 1, -1048576, "$A2");
        due("B1:E2", 0, -1, "A1:D2");
        due("B1:E2", 0, -2, "#REF!");
        due("B1:E2", 0, 16379, "XFA1:XFD2");
        due("B1:E2", 0, 16380, "#REF!");
        due("$B1:E2", 0, -5, "#REF!");
        due("$B1:E2", 0, -4, "A1:$B2");
        due("B1:$E2", 0, 16382, "$E1:XFD2");
        due("B1:$E2", 0, 16383, "#REF!");
        due("$B1:$E2", 0, -1048576, "$B1:$E2");
        due("A1", -1, -1, "#REF!");
        due("Z9", 1, 1, "AA10");
        due("ZZ99", 1, 1, "AAA100");
        due("AAA100", -1, -1, "ZZ99");
    }

    /** "each of the four keeps its $ (behind MOVING it is put in order again)". */
    private static void orderAgain() {
        due("A$5:B7", -3, 0, "A4:B$5");
        due("A$5:B7", -2, 0, "A$5:B5");
        due("A5:B$7", 2, 0, "A7:B$7");
        due("A5:B$7", 3, 0, "A$7:B8");
        due("$C1:E2", 0, -3, "B1:$C2");
        due("$C1:E2", 0, -2, "$C1:C2");
        due("C1:$E2", 0, 2, "E1:$E2");
        due("C1:$E2", 0, 3, "$E1:F2");
        due("$C$5:E7", -3, -3, "B4:$C$5");
        due("$C5:E$7", 3, -3, "B$7:$C8");
        due("C$5:$E7", -3, 3, "$E4:F$5");
        due("T!$C$5:E7", -3, -3, "T!B4:$C$5");
    }

    /** Many references near both ends, by the document's sentence itself. */
    private static void manyReferences() {
        java.util.Random random = new java.util.Random(8);
        int[] last = {1048576, 16384};
        for (int round = 0; round < 20000; round++) {
            int[] cell = new int[4];
            boolean[] dollar = new boolean[4];
            int[] by = {random.nextInt(13) - 6, random.nextInt(13) - 6};
            for (int k = 0; k < 4; k++) {
                cell[k] = random.nextBoolean() ? 1 + random.nextInt(5) : last[k % 2] - random.nextInt(5);
                dollar[k] = random.nextInt(3) == 0;
            }
            boolean isRange = random.nextInt(3) > 0;
            String text = written(cell, dollar, 0) + (isRange ? ":" + written(cell, dollar, 2) : "");
            boolean lost = false;
            for (int k = 0; k < (isRange ? 4 : 2); k++) {
                cell[k] += dollar[k] ? 0 : by[k % 2];
                lost |= cell[k] < 1 || cell[k] > last[k % 2];
            }
            inOrder(cell, dollar, isRange, by);
            String form = written(cell, dollar, 0) + (isRange ? ":" + written(cell, dollar, 2) : "");
            due(text, by[0], by[1], lost ? "#REF!" : form);
        }
    }

    /** Where both are equal then, those that were first when the text was read are first. */
    private static void inOrder(int[] cell, boolean[] dollar, boolean isRange, int[] by) {
        for (int k = 0; k < 2 && isRange; k++) {
            int firstBefore = cell[k] - (dollar[k] ? 0 : by[k]);
            int lastBefore = cell[k + 2] - (dollar[k + 2] ? 0 : by[k]);
            boolean isTurned = cell[k] > cell[k + 2] || cell[k] == cell[k + 2] && firstBefore > lastBefore;
            if (isTurned) {
                int number = cell[k];
                cell[k] = cell[k + 2];
                cell[k + 2] = number;
                boolean has = dollar[k];
                dollar[k] = dollar[k + 2];
                dollar[k + 2] = has;
            }
        }
    }

    private static String written(int[] cell, boolean[] dollar, int from) {
        String letters = "";
        for (int rest = cell[from + 1]; rest > 0; rest = (rest - 1) / 26) {
            letters = (char) ('A' + (rest - 1) % 26) + letters;
        }
        return (dollar[from + 1] ? "$" : "") + letters + (dollar[from] ? "$" : "") + Math.max(cell[from], 1);
    }

    private static void places() {
        FormulaTrees x = Book.of("S", "T");
        Book.read(x, 0, 0, "A1+T!B2");
        x.move(0, 1, 1, 1, 0);
        Check.due("onto itself", Book.form(x, 0), "B2+T!C3");
        Check.due("its home", x.count(2), 1);
        Check.due("one formula", x.count(1), 1);
        x.move(0, 1, 0, 0, 7);
        Check.due("to 7", Book.form(x, 7), "B3+T!C4");
        Check.due("home of 7", x.count(9), 0);
        Check.due("home of 0", x.count(2), 1);
        Check.due("two formulas", x.count(1), 2);
        Book.read(x, 3, 0, "f(1,2,3)+\"abc\"");
        x.move(7, 0, 0, 1, 3);
        Check.due("in place of another", Book.form(x, 3), "B3+T!C4");
        Check.due("the same tree", x.same(3, 7), true);
        x.move(0, -2, 0, 0, 3);
        Check.due("lost", Book.facts(x, 3, 1), "2 0 -1 0 0 0 0 0 4");
        Check.due("what it came from", Book.form(x, 0), "B2+T!C3");
        x.remove(0);
        x.move(7, 0, 0, 0, 0);
        Check.due("to one that was removed", Book.form(x, 0), "B3+T!C4");
        Book.read(x, 7, 0, "9");
        Check.due("copies are their own", Book.form(x, 0), "B3+T!C4");
    }

    private static void wrongInputs() {
        FormulaTrees x = Book.of("S");
        Book.read(x, 0, 0, "A1");
        int[] far = {1048577, -1048577, Integer.MAX_VALUE, Integer.MIN_VALUE};
        for (int by : far) {
            Check.argument("move by rows " + by, () -> x.move(0, by, 0, 0, 1));
            Check.argument("move by columns " + by, () -> x.move(0, 0, by, 0, 1));
            Check.index("no formula, rows " + by, () -> x.move(1, by, 0, 0, 1));
            Check.index("no sheet, rows " + by, () -> x.move(0, by, 0, 1, 1));
            Check.index("no place, rows " + by, () -> x.move(0, by, 0, 0, 8));
        }
        for (int bad : new int[] {-1, 8, Integer.MAX_VALUE, Integer.MIN_VALUE}) {
            Check.index("formula " + bad, () -> x.move(bad, 0, 0, 0, 1));
            Check.index("sheet " + bad, () -> x.move(0, 0, 0, bad, 1));
            Check.index("to " + bad, () -> x.move(0, 0, 0, 0, bad));
        }
        Check.due("nothing changed", x.count(1), 1);
        Check.due("the form", Book.form(x, 0), "A1");
    }
}
