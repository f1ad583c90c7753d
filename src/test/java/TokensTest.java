/** Promise 7, the sentences of the tokens, the primaries and the ranks: one method for each, with the sentence before it. */
public final class TokensTest {
    private static final String[] ERRORS = {"#NULL!", "#DIV/0!", "#VALUE!", "#REF!", "#NAME?", "#NUM!", "#N/A"};

    private TokensTest() {
    }

    public static void main(String[] args) {
        numbers();
        powers();
        texts();
        errors();
        words();
        cellsOrWords();
        cellsWithDollars();
        behindCells();
        prefixes();
        signs();
        truths();
        ranges();
        names();
        calls();
        arguments();
        brackets();
        percents();
        signsBefore();
        fromTheLeft();
        oneExpression();
        Check.end();
    }

    private static void tree(String text, String due) {
        FormulaTrees x = Book.of("S", "It's", "A1");
        Check.due("read of <" + text + ">", Book.read(x, 0, 0, text), -1);
        Check.due("tree of <" + text + ">", x.count(1) == 0 ? "none" : Book.tree(x, 0), due);
    }

    private static void wrong(String text, int place) {
        Check.due("read of <" + text + ">", Book.place(text, "S", "It's", "A1"), place);
    }

    /** "a NUMBER: digits with perhaps one dot before, between or behind them, one digit at least". */
    private static void numbers() {
        for (String number : new String[] {"0", "9", "00", "0123456789", "1.", ".1", "1.1", "00.00", "123.", ".123", Book.times("9", 200) + ".1"}) {
            tree(number, "0:" + number);
            wrong(number + "..", number.length() + (number.contains(".") ? 0 : 1));
        }
        wrong(".", 1);
        wrong("..", 1);
        wrong(". ", 1);
        wrong(".E1", 1);
        wrong(".+1", 1);
        wrong("1.1.", 3);
        wrong(".1.", 2);
        wrong("1,1", 1);
    }

    /** "then perhaps E, perhaps + or -, and one to three digits". */
    private static void powers() {
        for (String begin : new String[] {"1", "1.", ".1", "1.1"}) {
            for (String power : new String[] {"E0", "e1", "E12", "e123", "E000", "E+1", "e+12", "E+999", "E-1", "e-12", "E-000"}) {
                tree(begin + power, "0:" + begin + power.toUpperCase());
                tree(begin + power + "+E1", "14(0:" + begin + power.toUpperCase() + " 4@-1,1,5,1,5,0)");
            }
            int length = begin.length();
            wrong(begin + "E", length + 1);
            wrong(begin + "E+", length + 2);
            wrong(begin + "E-", length + 2);
            wrong(begin + "E++1", length + 2);
            wrong(begin + "E.1", length + 1);
            wrong(begin + "EE1", length + 1);
            wrong(begin + "E1234", length + 4);
            wrong(begin + "E+1234", length + 5);
            wrong(begin + "E1.", length + 2);
            wrong(begin + "E1E1", length + 2);
            wrong(begin + "E%", length + 1);
        }
        tree("1E1+1", "14(0:1E1 0:1)");
        tree("1E-1-1", "15(0:1E-1 0:1)");
    }

    /** "A TEXT: ", characters, "; in it "" is one "." */
    private static void texts() {
        tree("\"\"", "1");
        tree("\"a\"", "1:a");
        tree("\"\"\"\"", "1:\"");
        tree("\"\"\"\"\"\"", "1:\"\"");
        tree("\"\"\"a\"", "1:\"a");
        tree("\"a\"\"\"", "1:a\"");
        tree("\"a\"\"b\"&\"\"", "16(1:a\"b 1)");
        wrong("\"", 1);
        wrong("\"\"\"", 3);
        wrong("\"\"\"\"\"", 5);
        wrong("\"\" \"\"", 3);
        wrong("\"a\"b\"", 3);
    }

    /** "An ERROR: one of #NULL! #DIV/0! #VALUE! #REF! #NAME? #NUM! #N/A." */
    private static void errors() {
        for (int k = 0; k < ERRORS.length; k++) {
            String error = ERRORS[k];
            tree(error, "2=" + (k + 1));
            tree(error.toLowerCase(), "2=" + (k + 1));
            for (int end = 1; end < error.length(); end++) {
                wrong(error.substring(0, end), end);
                wrong(error.substring(0, end) + "~", end);
                wrong(error.substring(0, end) + " " + error.substring(end), end);
            }
            wrong(error + "A", error.length());
            wrong(error + "!", error.length());
            wrong(error + "(", error.length());
        }
        wrong("#NULL?", 5);
        wrong("#NAME!", 5);
        wrong("#NA", 3);
        wrong("#N/A!", 4);
        wrong("#DIV/O!", 5);
        wrong("#ERROR!", 1);
        wrong("#GETTING_DATA", 1);
        wrong("##REF!", 1);
    }

    /** "A WORD: a letter or _, then letters, digits, _ and dots." */
    private static void words() {
        for (String word : new String[] {"a", "Z", "_", "__", "_1", "_.", "a.", "a..b", "a_b", "z9_.", "a.1", "A1.", "A1_", "A1b", "abcd1234"}) {
            tree(word, "6:" + word.toUpperCase());
            tree(word + "()", "7:" + word.toUpperCase());
        }
        for (char sign = 32; sign <= 126; sign++) {
            boolean begins = Character.isLetter(sign) || sign == '_';
            boolean goesOn = begins || Character.isDigit(sign) || sign == '.';
            if (goesOn) {
                tree("_" + sign, "6:_" + Character.toUpperCase(sign));
            }
            if (begins) {
                tree(sign + "_", "6:" + Character.toUpperCase(sign) + "_");
            }
        }
        wrong("1a", 1);
        wrong(".a", 1);
        wrong("a\\", 1);
        wrong("a?", 1);
        wrong("a@b", 1);
    }

    /** "A CELL: .. one to three letters, .. one to seven digits, of which the first is not 0 .. (what could be a cell or a word is a cell)." */
    private static void cellsOrWords() {
        tree("A1", "4@-1,1,1,1,1,0");
        tree("xFd1048576", "4@-1,1048576,16384,1048576,16384,0");
        tree("E1", "4@-1,1,5,1,5,0");
        tree("TRU1", "4@-1,1,14009,1,14009,0");
        tree("A", "6:A");
        tree("ABC", "6:ABC");
        tree("ABCD1", "6:ABCD1");
        tree("A0", "6:A0");
        tree("A01", "6:A01");
        tree("A1048577", "6:A1048577");
        tree("A10485760", "6:A10485760");
        tree("XFE1", "6:XFE1");
        tree("_A1", "6:_A1");
        wrong("A0:A1", 2);
        wrong("XFE1:A1", 4);
        wrong("A1048577:A1", 8);
        wrong("ABC:A1", 3);
    }

    /** "perhaps $, one to three letters, perhaps $, one to seven digits .. with column and row as above". */
    private static void cellsWithDollars() {
        tree("$A1", "4@-1,1,1,1,1,2");
        tree("A$1", "4@-1,1,1,1,1,1");
        tree("$xfd$1048576", "4@-1,1048576,16384,1048576,16384,3");
        String[] texts = {"$$A1", "$A$$1", "A1$", "$A1$", "$A$1$", "$1", "$_1", "$.1", "$A0", "$A$0", "A$0", "$ABCD1", "ABCD$1", "$XFE1", "XFE$1", "$XGA$1",
            "$YAA1", "$A1048577", "A$1048577", "$A$2000000", "$A1048576" + "0", "$", "$A", "A$", "$A$", "$TRUE", "TRUE$1", "_$1", "A_$1", "A1$1", "1$A1"};
        int[] places = {1, 3, 2, 3, 4, 1, 1, 1, 2, 3, 2, 4, 4, 3, 3, 3,
            3, 8, 8, 9, 9, 1, 2, 2, 3, 4, 4, 1, 2, 2, 1};
        for (int k = 0; k < texts.length; k++) {
            wrong(texts[k], places[k]);
        }
    }

    /** "no letter, digit, _, dot, ( or ! behind it". */
    private static void behindCells() {
        for (String sign : new String[] {"a", "Z", "_", ".", "(", "!"}) {
            wrong("$A$1" + sign, 4);
            wrong("A$1" + sign, 3);
            wrong("S!A1" + sign, 4);
            wrong("A1:A1" + sign, 5);
        }
        wrong("$A$10485760", 10);
        wrong("A1:A10485760", 11);
        tree("A1x", "6:A1X");
        tree("A1_", "6:A1_");
        tree("A1.", "6:A1.");
        tree("A1()", "7:A1");
        tree("A1!B2", "4@2,2,2,2,2,0");
        tree("A1%", "9(4@-1,1,1,1,1,0)");
        tree("A1+A1", "14(4@-1,1,1,1,1,0 4@-1,1,1,1,1,0)");
        wrong("A1 a", 3);
        wrong("A1 1", 3);
        wrong("A1 (", 3);
        wrong("A1 !", 3);
        wrong("A1\"", 2);
        wrong("A1#", 2);
    }

    /** "A PREFIX: a word, or a text in quotes .., and directly behind it !."; "with a prefix directly before it". */
    private static void prefixes() {
        tree("S!A1", "4@0,1,1,1,1,0");
        tree("'S'!A1", "4@0,1,1,1,1,0");
        tree("'It''s'!A1:B2", "5@1,1,1,2,2,0");
        tree("a1!a1", "4@2,1,1,1,1,0");
        tree("'A1'!$A$1:A2", "5@2,1,1,2,1,3");
        wrong("S!", 2);
        wrong("S!1", 2);
        wrong("S!x", 3);
        wrong("S!_", 2);
        wrong("S!(A1)", 2);
        wrong("S!\"a\"", 2);
        wrong("S!#REF!", 2);
        wrong("S!f(1)", 3);
        wrong("S!A1(", 4);
        wrong("S!-A1", 2);
        wrong("S!'S'!A1", 2);
        wrong("S!XFE1", 4);
        wrong("S!ABCD", 5);
        wrong("S!A0", 3);
        wrong("S!A1048577", 9);
        wrong("S!A1:S!B2", 6);
        wrong("S!A1:'S'!B2", 5);
        wrong("S!S", 3);
    }

    /** "The signs + - * / ^ & = <> < > <= >= % : , ( )." */
    private static void signs() {
        String[] between = {"^", "*", "/", "+", "-", "&", "=", "<>", "<", ">", "<=", ">="};
        for (int k = 0; k < between.length; k++) {
            tree("1" + between[k] + "2", 11 + k + "(0:1 0:2)");
            tree("1" + between[k] + "-2", 11 + k + "(0:1 10(0:2))");
            wrong("1" + between[k], 1 + between[k].length());
            wrong("1" + between[k] + ")", 1 + between[k].length());
            wrong("1" + between[k] + "*2", 1 + between[k].length());
            if (!between[k].equals("+") && !between[k].equals("-")) {
                wrong(between[k] + "2", 0);
            }
        }
        wrong("1<<2", 2);
        wrong("1>>2", 2);
        wrong("1><2", 2);
        wrong("1=<2", 2);
        wrong("1=>2", 2);
        wrong("1==2", 2);
        wrong("1<>=2", 3);
        wrong("1<=>2", 3);
        wrong("1>=>2", 3);
        wrong("1**2", 2);
        wrong("1!2", 1);
        wrong("1~2", 1);
        wrong("1|2", 1);
        wrong("1;2", 1);
    }

    /** "TRUE or FALSE (a word that is one of these, without ( behind it)". */
    private static void truths() {
        tree("TRUE", "3=1");
        tree("fAlSe", "3=0");
        tree("TRUE()", "7:TRUE");
        tree("false(TRUE)", "7:FALSE(3=1)");
        tree("TRUE1", "6:TRUE1");
        tree("TRUE.", "6:TRUE.");
        tree("_TRUE", "6:_TRUE");
        tree("TRU", "6:TRU");
        tree("FALS", "6:FALS");
        tree("FALSEE", "6:FALSEE");
        for (String truth : new String[] {"TRUE", "FALSE"}) {
            for (int k = 0; k < truth.length(); k++) {
                String other = truth.substring(0, k) + "Q" + truth.substring(k + 1);
                tree(other, "6:" + other);
            }
        }
        wrong("TRUE (", 5);
        wrong("TRUE:A1", 4);
        wrong("TRUE FALSE", 5);
    }

    /** "a CELL, or a RANGE: a cell, :, and a cell". */
    private static void ranges() {
        tree("A1:B2", "5@-1,1,1,2,2,0");
        tree("A1 : B2", "5@-1,1,1,2,2,0");
        tree("A1:A1048576", "5@-1,1,1,1048576,1,0");
        tree("A1:XFD1", "5@-1,1,1,1,16384,0");
        String[] texts = {":A1", "A1:", "A1::A2", "A1:2", "A:A", "1:1", "A1:B", "A1:x1_", "A1:XFE1", "A1:A1048577", "A1:A2:A3", "A1:(A2)", "(A1):A2", "A1%:A2",
            "A1:-A2", "A1:TRUE", "A1:f(", "f():A1", "x:A1", "#REF!:A1", "A1:#REF!", "\"a\":A1"};
        int[] places = {0, 3, 3, 3, 1, 1, 4, 5, 5, 10, 5, 3, 4, 3, 3, 6, 4, 3, 1, 5, 3, 3};
        for (int k = 0; k < texts.length; k++) {
            wrong(texts[k], places[k]);
        }
    }

    /** "a NAME: another word". */
    private static void names() {
        tree("x", "6:X");
        tree("x+y", "14(6:X 6:Y)");
        tree("s", "6:S");
        wrong("x y", 2);
        wrong("x!", 0);
        wrong("x:y", 1);
    }

    /** "a CALL: a word, directly behind it (, ARGUMENTS with a comma between each two, and )". */
    private static void calls() {
        tree("f(1)", "7:F(0:1)");
        tree("f(1,2)", "7:F(0:1 0:2)");
        tree("f(g(1),h())", "7:F(7:G(0:1) 7:H)");
        tree("f(1+2,-3)", "7:F(14(0:1 0:2) 10(0:3))");
        tree("f(1+2,3+4,5*6,-7+8)", "7:F(14(0:1 0:2) 14(0:3 0:4) 12(0:5 0:6) 14(10(0:7) 0:8))");
        tree("1*f(2=3,4=5)*6", "12(12(0:1 7:F(17(0:2 0:3) 17(0:4 0:5))) 0:6)");
        tree("1*(2=3)*(4=5)", "12(12(0:1 17(0:2 0:3)) 17(0:4 0:5))");
        wrong("f (1)", 2);
        wrong("f(1", 3);
        wrong("f(1 2)", 4);
        wrong("f(1;2)", 3);
        wrong("f(1))", 4);
        wrong("1(1)", 1);
        wrong("f()()", 3);
        wrong("\"f\"(1)", 3);
        wrong("f(1,2", 5);
    }

    /** "an argument is an expression, or NOTHING (no token at all); () has no arguments; at most 30". */
    private static void arguments() {
        tree("f()", "7:F");
        tree("f(,)", "7:F(8 8)");
        tree("f(,,)", "7:F(8 8 8)");
        tree("f(1,)", "7:F(0:1 8)");
        tree("f(,1)", "7:F(8 0:1)");
        tree("f(1,,2)", "7:F(0:1 8 0:2)");
        tree("f(,f(,))", "7:F(8 7:F(8 8))");
        tree("f(" + Book.times(",", 29) + ")", "7:F(8" + Book.times(" 8", 29) + ")");
        tree("f(" + Book.times("1,", 29) + "1)", "7:F(0:1" + Book.times(" 0:1", 29) + ")");
        wrong("f(" + Book.times(",", 30) + ")", 31);
        wrong("f(" + Book.times("1,", 30) + "1)", 61);
        wrong("f(" + Book.times("1,", 29) + "g(" + Book.times(",", 29) + "),", 2 + 58 + 2 + 29 + 1);
        wrong("f(-,1)", 3);
        wrong("f(1,+)", 5);
        wrong("f(1+,2)", 4);
        wrong("f(%)", 2);
        wrong("f((),1)", 3);
        wrong("f(,%)", 3);
    }

    /** "or (, an expression, )". */
    private static void brackets() {
        tree("(1)", "0:1");
        tree("((1))", "0:1");
        tree("(A1:B2)", "5@-1,1,1,2,2,0");
        wrong("()", 1);
        wrong("(,)", 1);
        wrong("(1,2)", 2);
        wrong("(1", 2);
        wrong("(1))", 3);
        wrong(")", 0);
        wrong("(1)(2)", 3);
        wrong("(f)(1)", 3);
        wrong("f((1,2),3)", 4);
    }

    /** "any number of % behind one". */
    private static void percents() {
        tree("1%", "9(0:1)");
        tree("1%%%", "9(9(9(0:1)))");
        tree("1 % %", "9(9(0:1))");
        tree("(1+2)%", "9(14(0:1 0:2))");
        tree("f()%", "9(7:F)");
        wrong("%", 0);
        wrong("%1", 0);
        wrong("1%1", 2);
        wrong("1+%", 2);
    }

    /** "any number of - and + before that". */
    private static void signsBefore() {
        tree("-1", "10(0:1)");
        tree("+1", "0:1");
        tree("--1", "10(10(0:1))");
        tree("-+-+1", "10(10(0:1))");
        tree("-1%", "10(9(0:1))");
        tree("(-1)%", "9(10(0:1))");
        tree("+1%", "9(0:1)");
        tree("1--1", "15(0:1 10(0:1))");
        tree("1-+1", "15(0:1 0:1)");
        tree("1+-+1", "14(0:1 10(0:1))");
        wrong("-", 1);
        wrong("+", 1);
        wrong("-*1", 1);
        wrong("1-", 2);
    }

    /** "^ between two such; * and / between; + and -; &; = <> < > <= >=. Each of these binds from the left, those named first bind most." */
    private static void fromTheLeft() {
        String[] levels = {"^", "*/", "+-", "&", "=<>"};
        String kinds = "^*/+-&=?<>";
        for (int one = 0; one < levels.length; one++) {
            for (int two = 0; two < levels.length; two++) {
                for (char first : levels[one].toCharArray()) {
                    for (char second : levels[two].toCharArray()) {
                        int outer = 11 + kinds.indexOf(one <= two ? second : first);
                        int inner = 11 + kinds.indexOf(one <= two ? first : second);
                        tree("1" + first + "2" + second + "3", one <= two
                            ? outer + "(" + inner + "(0:1 0:2) 0:3)"
                            : outer + "(0:1 " + inner + "(0:2 0:3))");
                    }
                }
            }
        }
        tree("1<>2<=3>=4", "22(21(18(0:1 0:2) 0:3) 0:4)");
        tree("-1^-2", "11(10(0:1) 10(0:2))");
        tree("1^2%", "11(0:1 9(0:2))");
        tree("-2^2", "11(10(0:2) 0:2)");
        tree("1*-2^3", "12(0:1 11(10(0:2) 0:3))");
    }

    /** "A formula is one expression." */
    private static void oneExpression() {
        wrong("", 0);
        wrong(" ", 1);
        wrong("1 2", 2);
        wrong("=1", 0);
        wrong("1,2", 1);
        wrong("1:2", 1);
        wrong("A1 A2", 3);
    }
}
