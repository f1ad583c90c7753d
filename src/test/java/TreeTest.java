/** Promises 10 and 12 to 15: remove, size, node, letter and same. */
public final class TreeTest {
    private TreeTest() {
    }

    public static void main(String[] args) {
        remove();
        size();
        kinds();
        ranks();
        references();
        nodeArguments();
        letter();
        same();
        Check.end();
    }

    private static void due(String text, String tree) {
        FormulaTrees x = Book.of("S", "T");
        Check.due("read of " + text, Book.read(x, 0, 0, text), -1);
        Check.due("tree of " + text, Book.tree(x, 0), tree);
    }

    private static void remove() {
        FormulaTrees x = Book.of("S");
        Book.read(x, 5, 0, "1+A1");
        Book.read(x, 6, 0, "2");
        x.remove(5);
        Check.due("no home", x.count(7), -1);
        Check.due("one is left", x.count(1), 1);
        Check.due("the other stays", Book.form(x, 6), "2");
        for (int bad : new int[] {-1, 0, 5, 8, Integer.MIN_VALUE, Integer.MAX_VALUE}) {
            Check.index("remove(" + bad + ")", () -> x.remove(bad));
            Check.index("size(" + bad + ")", () -> x.size(bad));
            Check.index("form(" + bad + ")", () -> x.form(bad, 0));
            Check.index("node(" + bad + ")", () -> x.node(bad, 0, 9));
            Check.index("letter(" + bad + ")", () -> x.letter(bad, 0, 0));
            Check.index("same(" + bad + ", 6)", () -> x.same(bad, 6));
            Check.index("same(6, " + bad + ")", () -> x.same(6, bad));
            Check.index("move(" + bad + ")", () -> x.move(bad, 0, 0, 0, 6));
        }
        Check.due("nothing was shifted", x.shift(0, true, 1, -1), 0);
        Check.due("read again", Book.read(x, 5, 0, "3"), -1);
        Check.due("what is there then", Book.form(x, 5), "3");
    }

    private static void size() {
        String[] texts = {"1", "(1)", "+1", "-1", "1%", "1+2", "f()", "f(,)", "f(1,,2)", "A1:B2", "S!A1:B2", "-(1+2)%"};
        int[] sizes = {1, 1, 1, 2, 2, 3, 1, 3, 4, 1, 1, 5};
        for (int k = 0; k < texts.length; k++) {
            FormulaTrees x = Book.of("S");
            Book.read(x, 7, 0, texts[k]);
            Check.due("size of " + texts[k], x.size(7), sizes[k]);
        }
        FormulaTrees x = Book.of("S");
        Book.read(x, 0, 0, Book.times("-", 127) + "1");
        Check.due("the greatest size", x.size(0), 128);
        Check.due("its last node", x.node(0, 127, 0), 0);
        Check.index("none behind it", () -> x.node(0, 128, 0));
    }

    private static void kinds() {
        due("1.50e+07", "0:1.50E+07");
        due("\"aB\"\"c\"", "1:aB\"c");
        due("\"\"", "1");
        String[] errors = {"#null!", "#div/0!", "#value!", "#ref!", "#name?", "#num!", "#n/a"};
        for (int k = 0; k < errors.length; k++) {
            due(errors[k], "2=" + (k + 1));
        }
        due("tRUE", "3=1");
        due("False", "3=0");
        due("a1", "4@-1,1,1,1,1,0");
        due("abc", "6:ABC");
        due("_a.1", "6:_A.1");
        due("sum(1,,x)", "7:SUM(0:1 8 6:X)");
        due("f()", "7:F");
        due("f( )", "7:F");
        due("f(,)", "7:F(8 8)");
        due("true()", "7:TRUE");
        due("a1(1)", "7:A1(0:1)");
        due("1%", "9(0:1)");
        due("-1", "10(0:1)");
        String[] signs = {"^", "*", "/", "+", "-", "&", "=", "<>", "<", ">", "<=", ">="};
        for (int k = 0; k < signs.length; k++) {
            due("1 " + signs[k] + " 2", (11 + k) + "(0:1 0:2)");
        }
    }

    private static void ranks() {
        due("1+2*3^-2%&4=5", "17(16(14(0:1 12(0:2 11(0:3 10(9(0:2))))) 0:4) 0:5)");
        due("1=2&3+4*5^6", "17(0:1 16(0:2 14(0:3 12(0:4 11(0:5 0:6)))))");
        due("1^2*3+4&5=6", "17(16(14(12(11(0:1 0:2) 0:3) 0:4) 0:5) 0:6)");
        due("-2^2", "11(10(0:2) 0:2)");
        due("-(2^2)", "10(11(0:2 0:2))");
        due("2^-3^4", "11(11(0:2 10(0:3)) 0:4)");
        due("1^2^3", "11(11(0:1 0:2) 0:3)");
        due("1^(2^3)", "11(0:1 11(0:2 0:3))");
        due("1-2-3+4", "14(15(15(0:1 0:2) 0:3) 0:4)");
        due("1/2*3", "12(13(0:1 0:2) 0:3)");
        due("1<2=3<>4", "18(17(19(0:1 0:2) 0:3) 0:4)");
        due("1&2&3", "16(16(0:1 0:2) 0:3)");
        due("-+-1%%", "10(10(9(9(0:1))))");
        due("(-1)%", "9(10(0:1))");
        due("(1+2)%*3", "12(9(14(0:1 0:2)) 0:3)");
        due("-(1+2)*(3-4)", "12(10(14(0:1 0:2)) 15(0:3 0:4))");
        due("1*(2+(3*(4)))-5", "15(12(0:1 14(0:2 12(0:3 0:4))) 0:5)");
        due("f(1+2*3,-x)%+g(f(1)^2)",
            "14(9(7:F(14(0:1 12(0:2 0:3)) 10(6:X))) 7:G(11(7:F(0:1) 0:2)))");
        due("1+f(2-3,4)*5", "14(0:1 12(7:F(15(0:2 0:3) 0:4) 0:5))");
    }

    private static void references() {
        due("$B3", "4@-1,3,2,3,2,2");
        due("B$3", "4@-1,3,2,3,2,1");
        due("$b$3", "4@-1,3,2,3,2,3");
        due("t!XFD1048576", "4@1,1048576,16384,1048576,16384,0");
        due("z1", "4@-1,1,26,1,26,0");
        due("aa1", "4@-1,1,27,1,27,0");
        due("zz1", "4@-1,1,702,1,702,0");
        due("aaa1", "4@-1,1,703,1,703,0");
        due("A1:B2", "5@-1,1,1,2,2,0");
        due("A1:A1", "5@-1,1,1,1,1,0");
        due("$A1:B$2", "5@-1,1,1,2,2,6");
        due("A$1:$B2", "5@-1,1,1,2,2,9");
        due("$B$7:A1", "5@-1,1,1,7,2,12");
        due("B$1:$A7", "5@-1,1,1,7,2,3");
        due("$B1:A$7", "5@-1,1,1,7,2,12");
        due("B$7:$A1", "5@-1,1,1,7,2,6");
        due("$A$1:A1", "5@-1,1,1,1,1,3");
        due("A1:$A$1", "5@-1,1,1,1,1,12");
        due("T!B2 : A1", "5@1,1,1,2,2,0");
        due("'t'!A1+S!A1", "14(4@1,1,1,1,1,0 4@0,1,1,1,1,0)");
    }

    private static void nodeArguments() {
        FormulaTrees x = Book.of("S");
        Book.read(x, 0, 0, "f(1,\"a\",#N/A,TRUE,FALSE,S!$B3,A1:C$4,x,,-1%)");
        String[] due = {
            "7 10 -1 0 0 0 0 0 0", "0 0 -1 0 0 0 0 0 0", "1 0 -1 0 0 0 0 0 0", "2 0 -1 0 0 0 0 0 7",
            "3 0 -1 0 0 0 0 0 1", "3 0 -1 0 0 0 0 0 0", "4 0 0 3 2 3 2 2 0", "5 0 -1 1 1 4 3 4 0",
            "6 0 -1 0 0 0 0 0 0", "8 0 -1 0 0 0 0 0 0", "10 1 -1 0 0 0 0 0 0", "9 1 -1 0 0 0 0 0 0",
            "0 0 -1 0 0 0 0 0 0"};
        for (int node = 0; node < due.length; node++) {
            Check.due("node " + node, Book.facts(x, 0, node), due[node]);
        }
        for (int bad : new int[] {-1, 13, 128, Integer.MIN_VALUE, Integer.MAX_VALUE}) {
            Check.index("node(0, " + bad + ", 0)", () -> x.node(0, bad, 0));
            Check.index("node(0, " + bad + ", 9)", () -> x.node(0, bad, 9));
            Check.index("letter(0, " + bad + ", 0)", () -> x.letter(0, bad, 0));
        }
        for (int bad : new int[] {-1, 9, 10, 11, Integer.MIN_VALUE, Integer.MAX_VALUE}) {
            Check.argument("node(0, 0, " + bad + ")", () -> x.node(0, 0, bad));
        }
    }

    private static void letter() {
        FormulaTrees x = Book.of("S");
        Book.read(x, 0, 0, "fN.x(1.5e-3,\"aB\"\"\"\"'c \",#N/A,true,A1:B2,s!a1,nAme_,,-1%)");
        String[] due = {"FN.X", "1.5E-3", "aB\"\"'c ", "", "", "", "", "NAME_", "", "", "", "1"};
        for (int node = 0; node < due.length; node++) {
            Check.due("letters of node " + node, Book.letters(x, 0, node), due[node]);
        }
        for (int k : new int[] {-1, 4, Integer.MIN_VALUE, Integer.MAX_VALUE}) {
            Check.due("letter(0, 0, " + k + ")", x.letter(0, 0, k), -1);
        }
        for (int node = 0; node < due.length; node++) {
            Check.due("a letter before those of node " + node, x.letter(0, node, -1), -1);
            Check.due("a letter behind those of node " + node, x.letter(0, node, due[node].length()), -1);
        }
        Check.due("a letter of an error", x.letter(0, 3, 0), -1);
        Book.read(x, 1, 0, "\"" + Book.times("~", 254) + "\"");
        Check.due("the longest text", x.letter(1, 0, 253), '~');
        Check.due("behind it", x.letter(1, 0, 254), -1);
    }

    private static void same(String one, String two, boolean due) {
        FormulaTrees x = Book.of("S", "T");
        Check.due("read of " + one, Book.read(x, 0, 0, one), -1);
        Check.due("read of " + two, Book.read(x, 7, 1, two), -1);
        Check.due(one + " same as " + two, x.same(0, 7), due);
        Check.due(two + " same as " + one, x.same(7, 0), due);
        Check.due("same as itself", x.same(0, 0) && x.same(7, 7), true);
    }

    private static void same() {
        same("1+2*3", " +1 + ( 2*3 )", true);
        same("1e5", "1E5", true);
        same("1e5", "1E+5", false);
        same("1.0", "1", false);
        same("\"a\"", "\"A\"", false);
        same("\"a\"", "\"a\"", true);
        same("\"a\"", "\"ab\"", false);
        same("abc", "ABC", true);
        same("abcd", "abce", false);
        same("f(x)", "F(X)", true);
        same("f(x)", "g(x)", false);
        same("f()", "f(,)", false);
        same("f(,)", "f(,,)", false);
        same("f", "f()", false);
        same("true", "TRUE", true);
        same("true", "false", false);
        same("#N/A", "#REF!", false);
        same("A1", "a1", true);
        same("A1", "$A1", false);
        same("A1", "A2", false);
        same("A1", "B1", false);
        same("A1", "A1:A1", false);
        same("A1:B2", "B2:A1", true);
        same("A1:B2", "B1:A2", true);
        same("A1:B2", "A1:B3", false);
        same("A1:B2", "A1:C2", false);
        same("A$1:B2", "A1:B$2", false);
        same("S!A1", "s!A1", true);
        same("S!A1", "'S'!A1", true);
        same("S!A1", "T!A1", false);
        same("S!A1", "A1", false);
        same("T!A1", "A1", false);
        same("1-2-3", "1-(2-3)", false);
        same("-2^2", "-(2^2)", false);
        same("-2^2", "(-2)^2", true);
        same("1", "1%", false);
        same("x+12", "x1+2", false);
        same("f(1,g(2),3)", "f(1,g(2,3))", false);
    }
}
