/** Promise 7: read, with the places where texts are wrong. */
public final class ReadTest {
    private static final String FULL = Book.times("1+", 64);

    private ReadTest() {
    }

    public static void main(String[] args) {
        arguments();
        allStays();
        nothingStaysOfAWrongText();
        numbers();
        textsAndErrors();
        wordsAndCells();
        prefixes();
        calls();
        operators();
        bracketLimit();
        nodeLimit();
        Check.end();
    }

    private static void due(String text, int place) {
        Check.due("read of " + text, Book.place(text, "S", "It's", "TRUE", "A1"), place);
    }

    private static void right(String... texts) {
        for (String text : texts) {
            due(text, -1);
        }
    }

    private static void arguments() {
        FormulaTrees x = Book.of("S");
        Book.text(x, "1+");
        for (int bad : new int[] {-1, 8, Integer.MIN_VALUE, Integer.MAX_VALUE}) {
            Check.index("read(" + bad + ", 0)", () -> x.read(bad, 0));
            Check.index("read(0, " + bad + ")", () -> x.read(0, bad));
        }
        Check.index("read(0, 1)", () -> x.read(0, 1));
        Check.due("read(7, 0)", x.read(7, 0), 2);
    }

    private static void allStays() {
        FormulaTrees x = Book.of("S", "T");
        Book.read(x, 2, 1, "f(1,A1)");
        Check.due("a wrong text", Book.read(x, 2, 0, "2*(3"), 4);
        Check.due("form stays", Book.form(x, 2), "F(1,A1)");
        Check.due("home stays", x.count(4), 1);
        Check.due("a wrong text at a place where none is", Book.read(x, 3, 0, "2*(3"), 4);
        Check.due("none there", x.count(5), -1);
        Check.due("a right one", Book.read(x, 2, 0, "2*(3)"), -1);
        Check.due("form is new", Book.form(x, 2), "2*3");
        Check.due("home is new", x.count(4), 0);
        Check.due("one formula", x.count(1), 1);
    }

    /** A text that is right is read as by a new object, whatever was read before. */
    private static void nothingStaysOfAWrongText() {
        String[] before = {"1+1+1+1+-", "((((1=2", "f(1,g(2,3,", "1+2*3^", "A1:", "S!", "f(-1*-2", "---", "1&(2&(3&f(", "1%%%1", "1*2+3"};
        String[] texts = {"2+3", "1*2+3=4", "f(1+2,3)", "-1", "1", "(1+2)*3", "1-(2-3)-4", "A1:B2"};
        for (String wrong : before) {
            for (String text : texts) {
                FormulaTrees x = Book.of("S");
                Check.due("read of " + text, Book.read(x, 0, 0, text), -1);
                Book.read(x, 1, 0, wrong);
                Check.due("read of " + text + " again", Book.read(x, 2, 0, text), -1);
                Check.due(text + " behind " + wrong, Book.tree(x, 2), Book.tree(x, 0));
                Check.due("size of " + text, x.size(2), x.size(0));
            }
        }
    }

    private static void numbers() {
        right("0", "007", "1.", ".5", "1.5", "1E5", "1e5", "1E+5", "1.e-005", ".5E999", " 1 ", "1e5+1");
        due("", 0);
        due("   ", 3);
        due(".", 1);
        due(".e5", 1);
        due("..5", 1);
        due("1..", 2);
        due("1.2.", 3);
        due("1E", 2);
        due("1E ", 2);
        due("1E+ 1", 3);
        due("1E+-1", 3);
        due("1E1234", 5);
        due("1E1.", 3);
        due("1EE1", 2);
        due("1A", 1);
        due("1 2", 2);
        due("1_", 1);
        due("1$", 1);
    }

    private static void textsAndErrors() {
        right("\"\"", "\"a\"\"b\"", "\"\"\"\"", "\" ':#\"", "#null!", "#DIV/0!", "#Value!", "#ref!", "#NAME?", "#NUM!", "#n/A");
        due("\"", 1);
        due("\"a", 2);
        due("\"a\"\"", 4);
        due("\"a\" \"b\"", 4);
        due("\"a\"b", 3);
        due("#", 1);
        due("# N/A", 1);
        due("#NUL", 4);
        due("#NULL", 5);
        due("#NULL?", 5);
        due("#NUX", 3);
        due("#NX", 2);
        due("#DIV/1", 5);
        due("#REF!A1", 5);
        due("#N/AA", 4);
        due("#NAME!", 5);
        due("#NA/", 3);
    }

    private static void wordsAndCells() {
        right("a", "_", "_1.x", "ABCD", "ABC", "XFE1", "XFD1048577", "A0", "A01", "A12345678", "A1.5", "A1_", "R1C1",
            "TRUE", "false", "true1", "$a$1", "A$1048576", "$XFD1", "A1:B2", "A1 : B2", "$A$1:$B2", "b$2:a1");
        due("a b", 2);
        due("A1 B1", 3);
        due("A1(", 3);
        due("A1 (1)", 3);
        due("TRUE (", 5);
        due("TRUE$1", 4);
        due("$", 1);
        due("$ A1", 1);
        due("$1", 1);
        due("$_", 1);
        due("$A", 2);
        due("$A.", 2);
        due("$A 1", 2);
        due("$A0", 2);
        due("$A$0", 3);
        due("$A$$1", 3);
        due("$ABCD", 4);
        due("$XFE", 3);
        due("$YAA", 3);
        due("$A1048577", 8);
        due("$A10485760", 9);
        due("$A2000000", 8);
        due("$A1A", 3);
        due("$A1_", 3);
        due("$A1.", 3);
        due("$A1(", 3);
        due("$A1!", 3);
        due("$A1$", 3);
        due("A1$", 2);
        due("ABCD$1", 4);
        due("XFE$1", 3);
        due("XFD$", 4);
        due("XFD$x", 4);
        due("A$1x", 3);
        due("A$1(", 3);
        due("A$12345678", 8);
        due("A$99999999", 8);
        due("A1:", 3);
        due("A1: ", 4);
        due("A1:1", 3);
        due("A1:_", 3);
        due("A1:$", 4);
        due("A1:B", 4);
        due("A1:BCDE", 6);
        due("A1:XFE1", 5);
        due("A1:B0", 4);
        due("A1:B2:C3", 5);
        due("A1:B2x", 5);
        due("A1:B2(", 5);
        due("A1:B2!", 5);
        due("A1:S!B2", 4);
        due("A1:'S'!B2", 3);
        due("A1:(B2)", 3);
        due("(A1):B2", 4);
        due("A1%:B2", 3);
        due("x:A1", 1);
        due("TRUE:A1", 4);
        due("1:2", 1);
        due("A1::B2", 3);
    }

    private static void prefixes() {
        right("S!A1", "s!a1:b2", "'S'!A1", "'it''s'!A1", "TRUE!A1", "A1!A1", "'a1'!$A$1", "S!A1 : B2", "f(S!A1)");
        due("S!", 2);
        due("S! A1", 2);
        due("S !A1", 2);
        due("'S'", 3);
        due("'S' !A1", 3);
        due("'S'A1", 3);
        due("'S'!", 4);
        due("'S'! A1", 4);
        due("'S", 2);
        due("'S''", 4);
        due("'", 1);
        due("''", 2);
        due("''!A1", 0);
        due("S!x", 3);
        due("S!_", 2);
        due("S!1", 2);
        due("S!A1x", 4);
        due("S!A1!", 4);
        due("S!A1(", 4);
        due("S!S!A1", 3);
        due("S!TRUE", 5);
        due("S!#REF!", 2);
        due("S!XFE1", 4);
        due("S!A1048577", 9);
        due("S!A1:S!A2", 6);
        due("T!A1", 0);
        due("1+T!A1", 2);
        due("1+T!?", 2);
        due("1+T!", 2);
        due("f( 'T'!A1)", 3);
        due("'T'A1", 3);
        due("'T", 2);
        due("'T'", 3);
        due("'s '!A1", 0);
        due("' s'!A1", 0);
        due("'It's'!A1", 4);
        due("1 T!A1", 2);
        due("FALSE!A1", 0);
        due("'a:b'!A1", 0);
    }

    private static void calls() {
        right("f()", "f( )", "f(,)", "f( , )", "f(1,)", "f(,1)", "f(f(f()))", "true()", "A1(1)", "a.b_1(1)", "XFD1048576(1)",
            "f((1),-1,+1,\"a\")");
        due("f", -1);
        due("f(", 2);
        due("f (", 2);
        due("f(1", 3);
        due("f(1,", 4);
        due("f(1 2", 4);
        due("f(-)", 3);
        due("f(+,", 3);
        due("f(1+)", 4);
        due("f(())", 3);
        due("f((,))", 3);
        due("f((1,2))", 4);
        due("f()(", 3);
        due("f()1", 3);
        due("f())", 3);
        due("f(:)", 2);
        due("1()", 1);
        due("\"a\"(", 3);
        due("()", 1);
        due("(,)", 1);
        due("1,2", 1);
        due("(1,2)", 2);
        due(")", 0);
        due(",", 0);
        right("f(" + Book.times("1,", 29) + "1)", "f(" + Book.times(",", 29) + ")", "f(" + Book.times("1,", 29) + ")");
        due("f(" + Book.times("1,", 29) + "1,", 2 + 59);
        due("f(" + Book.times(",", 30), 2 + 29);
        due("f(" + Book.times(" ,", 30), 2 + 59);
        due("f(f(" + Book.times("1,", 29) + "1)," + Book.times(",", 28) + ")", -1);
    }

    private static void operators() {
        right("1+2-3*4/5^6&7=8<>9<1>2<=3>=4", "--+-1", "+1", "1%%", "1 %", "- 1", "1<-2", "1=+2", "1^-+2%", "(1)", "( 1 )");
        due("1+", 2);
        due("1+ ", 3);
        due("*1", 0);
        due("=1", 0);
        due("%", 0);
        due("1+*2", 2);
        due("1< >2", 3);
        due("1> =2", 3);
        due("1<<2", 2);
        due("1><2", 2);
        due("1=<2", 2);
        due("1=>2", 2);
        due("1<>>2", 3);
        due("1<==2", 3);
        due("1==2", 2);
        due("1^*2", 2);
        due("-%", 1);
        due("1;2", 1);
        due("{1}", 0);
        due("1@", 1);
        due("[", 0);
        due("(1", 2);
        due("(1))", 3);
        due("1)", 1);
        due("(1)(2)", 3);
        due("(1)2", 3);
    }

    private static void bracketLimit() {
        String open = Book.times("(", 32);
        due(open + "1" + Book.times(")", 32), -1);
        due(open + "(1", 32);
        due(open + "f(", 33);
        due(open + "f", 33);
        due(Book.times("f(", 32) + Book.times(")", 32), -1);
        due(Book.times("f(", 33), 65);
        due(Book.times("f(", 32) + "f", 65);
        due(Book.times("f(", 32) + " (", 65);
        due(Book.times("(1)+", 40) + "(1)", -1);
        due(Book.times("f()+", 40) + "f()", -1);
        due(Book.times("((1)+", 16) + "1" + Book.times(")", 16), -1);
    }

    private static void nodeLimit() {
        due(FULL, 128);
        due(FULL + "+", 129);
        for (String operand : new String[] {"1", "1.2.3", "\"a\"", "#N/A", "TRUE", "A1", "$A$1", "A1:", "S!A1", "'S'!A1:B2", "x", "f(", "-"}) {
            due(FULL + operand, 128);
            due(FULL + " +  " + operand, 132);
        }
        String full = Book.times("1+", 63) + "-1";
        due(full, -1);
        due(full + "%", 128);
        due(full + " +", 129);
        due(full + " <=", 129);
        due(full + ",", 128);
        due("f(" + Book.times("1+", 63) + "1)", -1);
        due("f(" + Book.times("1+", 63) + "1,", 130);
        due("f(" + Book.times("1+", 63) + "1, )", 131);
        due("f(" + Book.times("1+", 63) + "1, ,", 131);
        due("f(" + Book.times("1+", 63) + "1,1", 130);
        due("f(" + Book.times("1+", 63) + "f()", 131);
        due(Book.times("-", 127) + "1", -1);
        due(Book.times("-", 128) + "1", 128);
        due(Book.times("-", 129) + "1", 128);
        due(Book.times("+", 255) + "1", -1);
        due("1" + Book.times("%", 127), -1);
        due("1" + Book.times("%", 128), 128);
        due(FULL + "T!A1", 128);
        due(FULL + "\"a", 130);
        due(FULL + "1E", 130);
        due(FULL + "S!A", 131);
        due(FULL + "$A1x", 131);
    }
}
