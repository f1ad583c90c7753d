/** Promise 11: form. */
public final class FormTest {
    private FormTest() {
    }

    public static void main(String[] args) {
        tokens();
        brackets();
        pairs();
        prefixes();
        outside();
        Check.end();
    }

    private static void due(String text, String form) {
        FormulaTrees x = Book.of("S", "It's");
        Check.due("read of " + text, Book.read(x, 3, 1, text), -1);
        Check.due("form of " + text, Book.form(x, 3), form);
    }

    private static void tokens() {
        due(" 007.50e-03 ", "007.50E-03");
        due("1.", "1.");
        due(".5", ".5");
        due("\"a\"\"b c\"", "\"a\"\"b c\"");
        due("\"\"", "\"\"");
        due("#div/0! + #n/a & #name? & #null! & #num! & #ref! & #value!",
            "#DIV/0!+#N/A&#NAME?&#NULL!&#NUM!&#REF!&#VALUE!");
        due("true = FALSE", "TRUE=FALSE");
        due("aBc_1.x", "ABC_1.X");
        due("$a1:b$2", "$A1:B$2");
        due("$b$2:a1", "A1:$B$2");
        due("b1:a2", "A1:B2");
        due("a1:a1", "A1:A1");
        due("xfd1048576", "XFD1048576");
        due("sum( 1 , , x )", "SUM(1,,X)");
        due("f( )", "F()");
        due("f( , )", "F(,)");
        due("1 < 2 <= 3 > 4 >= 5 <> 6 = 7", "1<2<=3>4>=5<>6=7");
        due("1^2*3/4+5-6&7", "1^2*3/4+5-6&7");
        due("+ 1 + + 2", "1+2");
        due("- - 1 % %", "--1%%");
        due("1--1", "1--1");
        for (int row = 1; row <= 1000000; row *= 10) {
            due("a" + row, "A" + row);
        }
        String[] columns = {"a", "z", "aa", "az", "ba", "zz", "aaa", "aaz", "azz", "baa", "xfd"};
        for (String column : columns) {
            due(column + "10", column.toUpperCase() + "10");
        }
    }

    private static void brackets() {
        due("((1))", "1");
        due("(1+2)*3", "(1+2)*3");
        due("1+(2*3)", "1+2*3");
        due("(1*2)+3", "1*2+3");
        due("1*(2+3)", "1*(2+3)");
        due("1-(2-3)", "1-(2-3)");
        due("(1-2)-3", "1-2-3");
        due("1-(2+3)", "1-(2+3)");
        due("1+(2+3)", "1+(2+3)");
        due("1^(2^3)", "1^(2^3)");
        due("(1^2)^3", "1^2^3");
        due("(-2)^2", "-2^2");
        due("-(2^2)", "-(2^2)");
        due("2^(-2)", "2^-2");
        due("2^(-(2^3))", "2^-(2^3)");
        due("-(1%)", "-1%");
        due("(-1)%", "(-1)%");
        due("(1%)%", "1%%");
        due("(1+2)%", "(1+2)%");
        due("-(-1)", "--1");
        due("-(1+2)", "-(1+2)");
        due("-(1*2)", "-(1*2)");
        due("(-1)*2", "-1*2");
        due("1=(2=3)", "1=(2=3)");
        due("(1=2)=3", "1=2=3");
        due("1&(2=3)", "1&(2=3)");
        due("1=(2&3)", "1=2&3");
        due("1&(2&3)", "1&(2&3)");
        due("1/(2*3)", "1/(2*3)");
        due("f((1+2),(3))", "F(1+2,3)");
        due("(f(1))%", "F(1)%");
        due("(A1:B2)%", "A1:B2%");
        due("((1+2)*(3-4))^(5&6)", "((1+2)*(3-4))^(5&6)");
    }

    /** "around a node ( and ) where it would not be read as that child of that node otherwise, and only there", of each in each. */
    private static void pairs() {
        String[] nodes = {
            "1", "\"a\"", "#N/A", "TRUE", "$A1", "S!A1:B2", "X", "F()", "F(,1)", "1%", "-1", "1^2", "1*2", "1/2", "1+2", "1-2", "1&2", "1=2", "1<>2", "1<2", "1>2",
            "1<=2", "1>=2"};
        for (String inner : nodes) {
            inBrackets("", inner, "%");
            inBrackets("-", inner, "");
            inBrackets("", inner, "");
            inBrackets("F(", inner, ")");
            inBrackets("F(,", inner, ",)");
            inBrackets("--", inner, "%%");
            for (String sign : "^ * / + - & = <> < > <= >=".split(" ")) {
                inBrackets("", inner, sign + "7");
                inBrackets("7" + sign, inner, "");
                inBrackets("7" + sign + "-", inner, "");
                inBrackets("7" + sign, inner, sign + "7");
            }
        }
    }

    private static void inBrackets(String before, String inner, String behind) {
        FormulaTrees x = Book.of("S");
        String with = before + "(" + inner + ")" + behind;
        String without = before + inner + behind;
        Check.due("read of " + with, Book.read(x, 0, 0, with), -1);
        Check.due("read of " + without, Book.read(x, 1, 0, without), -1);
        Check.due("form of " + with, Book.form(x, 0), x.same(0, 1) ? without : with);
    }

    private static void prefix(String name, String written) {
        FormulaTrees x = Book.of(name);
        String quoted = "'" + name.replace("'", "''") + "'!A1:b2";
        Check.due("read of " + quoted, Book.read(x, 0, 0, quoted), -1);
        Check.due("form of " + quoted, Book.form(x, 0), written + "!A1:B2");
        Check.due("form read again", Book.read(x, 1, 0, Book.form(x, 0)), -1);
        Check.due("the same tree", x.same(0, 1), true);
    }

    private static void prefixes() {
        prefix("Data", "Data");
        prefix("data.1_x", "data.1_x");
        prefix("_", "_");
        prefix("S", "S");
        prefix("abc", "abc");
        prefix("It's", "'It''s'");
        prefix("a''b", "'a''''b'");
        prefix("A b", "'A b'");
        prefix(" ", "' '");
        prefix("1a", "'1a'");
        prefix("1", "'1'");
        prefix(".a", "'.a'");
        prefix("a-b", "'a-b'");
        prefix("a!b", "'a!b'");
        prefix("true", "'true'");
        prefix("FALSE", "'FALSE'");
        prefix("True1", "True1");
        prefix("TRUE.", "TRUE.");
        prefix("a1", "'a1'");
        prefix("XFE01", "'XFE01'");
        prefix("abc12345678", "'abc12345678'");
        prefix("abcd1", "abcd1");
        prefix("a1b", "a1b");
        prefix("R1C1", "R1C1");
        prefix("a1.", "a1.");
        prefix("_a1", "_a1");
        due("s!a1+'IT''S'!$b$2", "S!A1+'It''s'!$B$2");
    }

    private static void outside() {
        FormulaTrees x = Book.of("S");
        Book.read(x, 0, 0, "1+23");
        Check.due("character 0", x.form(0, 0), '1');
        Check.due("character 3", x.form(0, 3), '3');
        for (int k : new int[] {-1, 4, 5, 10000, Integer.MIN_VALUE, Integer.MAX_VALUE}) {
            Check.due("form(0, " + k + ")", x.form(0, k), -1);
        }
        for (int bad : new int[] {-1, 1, 8, Integer.MIN_VALUE, Integer.MAX_VALUE}) {
            Check.index("form(" + bad + ", 0)", () -> x.form(bad, 0));
        }
        mostNodes();
        theLongest();
    }

    /** Forms of 128 nodes, to their ends. */
    private static void mostNodes() {
        due(Book.times("-", 127) + "1", Book.times("-", 127) + "1");
        due("1" + Book.times("%", 127), "1" + Book.times("%", 127));
        due("-" + Book.times("1+", 63) + "1", "-" + Book.times("1+", 63) + "1");
String deepest = "-" + Book.times("(-", 32) + "1" + Book.times("%)", 32) + "%";
        due(deepest, deepest);
    }

    /** Asked for in parts, each of a new object. */
    private static void theLongest() {
        StringBuilder due = new StringBuilder();
        String written = "'a" + Book.times("''", 29) + "b'!";
        for (int k = 0; k < 32; k++) {
            due.append(k == 0 ? "" : "+").append(written).append("XFD1048576:XFD1048576");
        }
        StringBuilder got = new StringBuilder();
        int sign = 0;
        for (int from = 0; sign != FormulaTrees.NONE; from += 300) {
            FormulaTrees x = withTheLongest();
            for (int k = from; k < from + 300 && sign != FormulaTrees.NONE; k++) {
                sign = x.form(1, k);
                got.append(sign == FormulaTrees.NONE ? "" : "" + (char) sign);
            }
        }
        Check.due("the longest form", got.toString(), due.toString());
    }

    private static FormulaTrees withTheLongest() {
        FormulaTrees x = Book.of("S");
        Book.read(x, 0, 0, "S!A1:A1" + Book.times("+S!A1:A1", 31));
        Book.text(x, "a" + Book.times("'", 29) + "b");
        x.rename(0);
        x.move(0, 1048575, 16383, 0, 1);
        return x;
    }
}
