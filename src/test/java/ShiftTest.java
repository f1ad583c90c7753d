/** Promise 9: shift. */
public final class ShiftTest {
    private ShiftTest() {
    }

    public static void main(String[] args) {
        puttingIn();
        takingOut();
        farthest();
        dollars();
        sheets();
        afterTakingAway();
        wrongInputs();
        byCounting();
        Check.end();
    }

    private static void due(String text, boolean rows, int k, int n, String form) {
        FormulaTrees x = Book.of("S", "T");
        Check.due("read of " + text, Book.read(x, 0, 0, text), -1);
        int lost = form.split("#REF!", -1).length - text.split("#REF!", -1).length;
        String call = text + " shifted by " + n + (rows ? " rows" : " columns") + " at " + k;
        Check.due(call, x.shift(0, rows, k, n), lost);
        Check.due(call, Book.form(x, 0), form);
    }

    private static void puttingIn() {
        due("A5", true, 5, 1, "A6");
        due("A5", true, 6, 1, "A5");
        due("A5", true, 1, 0, "A5");
        due("$A$5", true, 4, 2, "$A$7");
        due("C1", false, 3, 2, "E1");
        due("C1", false, 4, 2, "C1");
        due("$C$1", false, 1, 1, "$D$1");
        due("A1:C5", true, 3, 2, "A1:C7");
        due("A1:C5", true, 1, 2, "A3:C7");
        due("A1:C5", true, 6, 2, "A1:C5");
        due("A1:C5", false, 2, 2, "A1:E5");
        due("A1", true, 1, 1048575, "A1048576");
        due("A1", true, 1, 1048576, "#REF!");
        due("A2", true, 2, 1048575, "#REF!");
        due("A1048576", true, 1048576, 1, "#REF!");
        due("A1:A1048576", true, 5, 9, "A1:A1048576");
        due("A1:$A$10", true, 5, 1048576, "A1:$A$1048576");
        due("A4:A10", true, 4, 1048572, "A1048576:A1048576");
        due("A4:A10", true, 4, 1048573, "#REF!");
        due("A1:C1", false, 1, 16383, "XFD1:XFD1");
        due("A1:C1", false, 1, 16384, "#REF!");
        due("A1:C1", false, 2, 1048576, "A1:XFD1");
        due("B1", false, 2, 16382, "XFD1");
        due("B1", false, 2, 16383, "#REF!");
    }

    private static void takingOut() {
        due("A5", true, 5, -1, "#REF!");
        due("A5", true, 6, -1, "A5");
        due("A5", true, 4, -1, "A4");
        due("A5", true, 4, -2, "#REF!");
        due("$A$5", true, 1, -4, "$A$1");
        due("A5", true, 1, -5, "#REF!");
        due("A5", true, 6, -1048576, "A5");
        due("A5", true, 5, -1048576, "#REF!");
        due("C1", false, 2, -1, "B1");
        due("C1", false, 3, -16384, "#REF!");
        due("C1", false, 3, -1048576, "#REF!");
        due("C1", false, 4, -1048576, "C1");
        due("A5:A10", true, 5, -6, "#REF!");
        due("A5:A10", true, 5, -5, "A5:A5");
        due("A5:A10", true, 6, -5, "A5:A5");
        due("A5:A10", true, 6, -3, "A5:A7");
        due("A5:A10", true, 1, -4, "A1:A6");
        due("A5:A10", true, 1, -6, "A1:A4");
        due("A5:A10", true, 1, -10, "#REF!");
        due("A5:A10", true, 8, -100, "A5:A7");
        due("A5:A10", true, 4, -3, "A4:A7");
        due("A5:A10", true, 11, -3, "A5:A10");
        due("$A$5:A10", true, 4, -3, "$A$4:A7");
        due("B1:$D$1", false, 3, -1, "B1:$C$1");
        due("B1:D1", false, 1, -2, "A1:B1");
        due("B1:D1", false, 2, -3, "#REF!");
        due("A1048576", true, 1048576, -1, "#REF!");
        due("A1048576", true, 1, -1, "A1048575");
        due("f(A1,B2,C3:D4)+#REF!", true, 2, -1, "F(A1,#REF!,C2:D3)+#REF!");
    }

    /** "n is not -1048576 .. 1048576": these themselves are not refused, of columns too. */
    private static void farthest() {
        due("A1048576", true, 1, -1048576, "#REF!");
        due("A1048576", true, 1, -1048575, "A1");
        due("A1048576", true, 1048576, -1048576, "#REF!");
        due("A1048575", true, 1048576, -1048576, "A1048575");
        due("A1:A1048576", true, 1, -1048576, "#REF!");
        due("A1:A1048576", true, 1, -1048575, "A1:A1");
        due("A1:A1048576", true, 2, -1048576, "A1:A1");
        due("A1:A1048576", true, 1048576, -1048576, "A1:A1048575");
        due("A1:A1048576", true, 1048576, 1048576, "A1:A1048576");
        due("A1:A1048576", true, 1, 1048575, "A1048576:A1048576");
        due("A1:A1048576", true, 1, 1048576, "#REF!");
        due("A1:A1048576", true, 1, 0, "A1:A1048576");
        due("A1048576", true, 1048576, 1048576, "#REF!");
        due("A1048575", true, 1048576, 1048576, "A1048575");
        due("XFD1", false, 16384, 1048576, "#REF!");
        due("XFC1", false, 16384, 1048576, "XFC1");
        due("XFD1", false, 1, -16383, "A1");
        due("XFD1", false, 1, -16384, "#REF!");
        due("XFD1", false, 1, -1048576, "#REF!");
        due("A1:XFD1", false, 2, -1048576, "A1:A1");
        due("A1:XFD1", false, 16384, -1, "A1:XFC1");
        due("A1:XFD1", false, 1, 16383, "XFD1:XFD1");
        due("A1:XFD1", false, 1, 16384, "#REF!");
        due("A1:XFD1048576", true, 7, 0, "A1:XFD1048576");
    }

    /** "Columns likewise. $ is no matter." */
    private static void dollars() {
        for (int turn = 0; turn < 4; turn++) {
            String column = turn % 2 == 0 ? "" : "$";
            String row = turn < 2 ? "" : "$";
            due(column + "C" + row + "5", true, 5, 2, column + "C" + row + "7");
            due(column + "C" + row + "5", true, 5, -1, "#REF!");
            due(column + "C" + row + "5", false, 3, 2, column + "E" + row + "5");
            due(column + "C" + row + "5", false, 3, -1, "#REF!");
            due("A1:" + column + "C" + row + "5", true, 5, 2, "A1:" + column + "C" + row + "7");
            due("A1:" + column + "C" + row + "5", true, 2, -9, "A1:" + column + "C" + row + "1");
            due("A1:" + column + "C" + row + "5", false, 3, 16384, "A1:" + column + "XFD" + row + "5");
            due(column + "C" + row + "5:D6", false, 3, -1, column + "C" + row + "5:C6");
            due(column + "C" + row + "5:D6", true, 1, -5, column + "C" + row + "1:D1");
        }
    }

    /** "formulas at home there are no more": they are not shifted, nor counted. */
    private static void afterTakingAway() {
        FormulaTrees x = Book.of("S", "T");
        Book.read(x, 0, 0, "A1+T!A1");
        Book.read(x, 1, 1, "A1+S!A1");
        Book.read(x, 2, 1, "A1");
        x.remove(2);
        x.drop(0);
        Check.due("what is left", Book.form(x, 1), "A1+#REF!");
        Check.due("of one formula alone", x.shift(0, true, 1, -1), 1);
        Check.due("all lost", Book.form(x, 1), "#REF!+#REF!");
        Check.due("none to lose", x.shift(0, true, 1, -1), 0);
        Check.index("the sheet is no more", () -> x.shift(1, true, 1, -1));
    }

    private static void sheets() {
        FormulaTrees x = Book.of("S", "T");
        Book.read(x, 0, 0, "A5+S!A5+T!A5+A5:A6");
        Book.read(x, 1, 1, "A5+S!A5+T!A5");
        Book.read(x, 6, 1, "S!A1:A5+#REF!");
        Book.read(x, 7, 0, "A5");
        x.remove(7);
        Check.due("put in on S", x.shift(0, true, 2, 1), 0);
        Check.due("at home there", Book.form(x, 0), "A6+S!A6+T!A5+A6:A7");
        Check.due("at home elsewhere", Book.form(x, 1), "A5+S!A6+T!A5");
        Check.due("another", Book.form(x, 6), "S!A1:A6+#REF!");
        Check.due("taken out on S", x.shift(0, true, 6, -1), 3);
        Check.due("at home there", Book.form(x, 0), "#REF!+#REF!+T!A5+A6:A6");
        Check.due("at home elsewhere", Book.form(x, 1), "A5+#REF!+T!A5");
        Check.due("another", Book.form(x, 6), "S!A1:A5+#REF!");
        Check.due("what is lost", Book.facts(x, 0, 4), "2 0 -1 0 0 0 0 0 4");
        Check.due("taken out on T", x.shift(1, false, 1, -1), 3);
        Check.due("at home there", Book.form(x, 0), "#REF!+#REF!+#REF!+A6:A6");
        Check.due("at home elsewhere", Book.form(x, 1), "#REF!+#REF!+#REF!");
    }

    private static void wrongInputs() {
        FormulaTrees x = Book.of("S");
        Book.read(x, 0, 0, "A1");
        for (int bad : new int[] {-1, 1, 8, Integer.MIN_VALUE, Integer.MAX_VALUE}) {
            Check.index("sheet " + bad, () -> x.shift(bad, true, 1, 1));
            Check.index("sheet " + bad + ", k 0", () -> x.shift(bad, true, 0, 1));
        }
        for (int bad : new int[] {0, -1, 1048577, Integer.MIN_VALUE, Integer.MAX_VALUE}) {
            Check.argument("row " + bad, () -> x.shift(0, true, bad, 1));
            Check.argument("column " + bad, () -> x.shift(0, false, bad, 1));
        }
        Check.argument("column 16385", () -> x.shift(0, false, 16385, 1));
        for (int bad : new int[] {1048577, -1048577, Integer.MIN_VALUE, Integer.MAX_VALUE}) {
            Check.argument("n " + bad, () -> x.shift(0, true, 2, bad));
            Check.argument("n " + bad, () -> x.shift(0, false, 2, bad));
        }
        Check.due("the last row", x.shift(0, true, 1048576, 1048576), 0);
        Check.due("the last column", x.shift(0, false, 16384, -1048576), 0);
        Check.due("nothing changed", Book.form(x, 0), "A1");
    }

    /** Each row or column of a reference is looked at by itself, near both ends of the sheet. */
    private static void byCounting() {
        java.util.Random random = new java.util.Random(9);
        for (int round = 0; round < 40000; round++) {
            boolean rows = random.nextBoolean();
            int most = rows ? 1048576 : 16384;
            int base = random.nextBoolean() ? 1 : most - 9;
            int one = base + random.nextInt(10);
            int two = random.nextInt(3) == 0 ? one : base + random.nextInt(10);
            int k = base + random.nextInt(10);
            int n = random.nextInt(24) - 12;
            boolean isCell = one == two && random.nextBoolean();
            FormulaTrees x = Book.of("S");
            String text = written(one, rows) + (isCell ? "" : ":" + written(two, rows));
            Book.read(x, 0, 0, text);
            int lost = x.shift(0, rows, k, n);
            String due = counted(Math.min(one, two), Math.max(one, two), k, n, most);
            int first = rows ? 3 : 4;
            String got = lost == 1 ? "lost" : x.node(0, 0, first) + " .. " + x.node(0, 0, first + 2);
            Check.due(text + " shifted by " + n + " at " + k, got, due);
            Check.due("kind of " + text, x.node(0, 0, 0), lost == 1 ? 2 : isCell ? 4 : 5);
            Check.due("the other side of " + text, x.node(0, 0, 7 - first), lost == 1 ? 0 : 1);
        }
    }

    private static String counted(int first, int last, int k, int n, int most) {
        int least = Integer.MAX_VALUE;
        int greatest = 0;
        for (int number = first; number <= last; number++) {
            boolean isOut = n < 0 && number >= k && number < k - n;
            int now = number >= k ? number + n : number;
            if (!isOut) {
                least = Math.min(least, now);
                greatest = Math.max(greatest, now);
            }
        }
        return least > most ? "lost" : least + " .. " + Math.min(greatest, most);
    }

    private static String written(int number, boolean rows) {
        String letters = "";
        for (int rest = rows ? 1 : number; rest > 0; rest = (rest - 1) / 26) {
            letters = (char) ('A' + (rest - 1) % 26) + letters;
        }
        return letters + (rows ? number : 1);
    }
}
