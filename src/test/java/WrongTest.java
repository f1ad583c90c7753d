/**
 * Promise 7, the sentence of where a text is wrong, word by word, and the other sentences of the
 * document of which the note behind stage 1 was unsure.
 */
public final class WrongTest {
    /** 128 nodes, behind which an operand is wanted. */
    private static final String FULL = Book.times("1+", 64);
    /** 127 nodes, behind which an operand is wanted. */
    private static final String ONE_LEFT = "-" + Book.times("1+", 63);
    /** 128 nodes, behind which none is wanted. */
    private static final String WHOLE = ONE_LEFT + "1";

    private WrongTest() {
    }

    public static void main(String[] args) {
        firstPlace();
        atItsEnd();
        prefixOfNoSheet();
        emptyPrefix();
        wholeTokens();
        operatorsAndSigns();
        signsWithoutNodes();
        tokensThatAreNotWhole();
        nothingWithItsSign();
        cellWithItsPrefix();
        rangesAreOneNode();
        brackets();
        twoLimits();
        lengthIsNoMatter();
        quotesOfPrefixes();
        dollarsOfRanges();
        Check.end();
    }

    private static void due(String text, int place) {
        Check.due("read of <" + text + ">", Book.place(text, "S", "It's", "A1", "true"), place);
    }

    /** What comes behind a beginning is wrong so many characters behind it; -1 when it is not wrong. */
    private static void behind(String beginning, String end, int place) {
        due(beginning + end, place == -1 ? -1 : beginning.length() + place);
    }

    /** "It is WRONG at the first place (how many characters before it) whose character does not go on". */
    private static void firstPlace() {
        due("*", 0);
        due(" *", 1);
        due("1)*(", 1);
        due("1 1 )", 2);
        due("(1;2;3", 2);
        due("f(1)) + (", 4);
        due("1+?+?", 2);
        due("A1:B2:C3:D4", 5);
        due("\"a\"x\"", 3);
    }

    /** "or at its end". */
    private static void atItsEnd() {
        String[] begun = {
            "", " ", "+", "-", "1+", "1<", "1<=", "1<>", "1>", "(", "((1)", "f(", "f( ", "f(1", "f(1,", "f(,", ".", "1E", "1.E", "1E+",
            "\"", "\"a", "\"a\"\"", "#", "#N", "#N/", "#DIV/0", "$", "$A", "A$", "$A$", "A1:", "A1: ", "A1:$", "A1:B", "A1:B$",
            "S!", "S!$", "S!A", "'", "'S", "'S'", "'S''", "''", "'nobody'", "'S'!", "'S'!A1:"};
        for (String text : begun) {
            due(text, text.length());
        }
    }

    /** "but a prefix that is no sheet's name .. [is] wrong at [its] first character". */
    private static void prefixOfNoSheet() {
        due("T!A1", 0);
        due("  T!A1", 2);
        due("T!", 0);
        due("T!?", 0);
        due("T!A1x", 0);
        due("'T'!A1", 0);
        due("1+( 'T'!A1", 4);
        due("f(S!A1,T!A1,?)", 7);
        due("'S '!A1", 0);
        due("''S'!A1", 2);
        due("'''S'!A1", 0);
        due("Its!A1", 0);
        due("'It's'!A1", 4);
        due("'It''''s'!A1", 0);
        due("false!A1", 0);
        due("A2!A1", 0);
        due("SS!A1", 0);
        due("T", -1);
        due("T !A1", 2);
        due("'T' !A1", 3);
        due("'T", 2);
        due("1 T!A1", 2);
        due("A1:T!A1", 4);
        due("$T!A1", 2);
        due("?T!A1", 0);
        due("1?T!A1", 1);
        due("TRUE!A1", -1);
        due("A1!A1", -1);
        due("s!A1", -1);
        due("'IT''S'!A1", -1);
        due("\"T!\"", -1);
    }

    /** "A PREFIX: a word, or a text in quotes (', characters, '; in it '' is one '), and directly behind it !." */
    private static void emptyPrefix() {
        due("''!A1", 0);
        due(" ''!A1", 1);
        due("1+''!", 2);
        due("''", 2);
        due("'' !A1", 2);
        due("''A1", 2);
        due("'''", 3);
        due("''''", 4);
        due("''''!A1", 0);
        due("'''!A1", 6);
        due("!A1", 0);
        due("1!A1", 1);
        due("\"S\"!A1", 3);
        due("#N/A!A1", 4);
        due("S!!A1", 2);
        due("S!S!A1", 3);
        due("S.!A1", 0);
        due(".S!A1", 1);
    }

    /** "a token with which there would be more than 128 nodes". */
    private static void wholeTokens() {
        String[] tokens = {
            "1", "12.5E-003", ".5", "7.", "\"\"", "\"a\"\"b\"", "#N/A", "#DIV/0!", "TRUE", "x", "A1", "$A$1", "XFD1048576", "A01", "f()", "f(1)",
            "S!A1", "'It''s'!$A$1"};
        for (String token : tokens) {
            behind(ONE_LEFT, token, token.equals("f(1)") ? 2 : -1);
            behind(FULL, token, 0);
            behind(FULL + "  ", token, 0);
            behind(FULL + "(", token, 0);
            behind(FULL + "+ ", token, 0);
            behind(FULL, token + "?", 0);
        }
        behind(FULL, "1.2.3", 0);
        behind(FULL, "1E5.", 0);
        behind(FULL, "\"a\"b", 0);
        behind(FULL, "A1:", 0);
        behind(FULL, "f(", 0);
        behind(FULL, "true(", 0);
        behind(FULL, "?", 0);
        behind(FULL, "*", 0);
    }

    /** Operators are tokens with a node, too: each one where it stands. */
    private static void operatorsAndSigns() {
        due(WHOLE, -1);
        for (String sign : new String[] {"%", "^", "*", "/", "+", "-", "&", "=", "<>", "<", ">", "<=", ">="}) {
            behind(WHOLE, sign, 0);
            behind(WHOLE, "  " + sign + "1", 2);
        }
        behind(ONE_LEFT, "1%", 1);
        behind(ONE_LEFT, "-", 1);
        behind(ONE_LEFT, "-1", 1);
        behind(FULL, "-", 0);
        behind(FULL, "+-1", 1);
        due(Book.times("-", 127) + "1", -1);
        due(Book.times("-", 128), 128);
        due(Book.times("-", 128) + "1", 128);
        due(Book.times("-", 129), 128);
        due("1" + Book.times("%", 127), -1);
        due("1" + Book.times("%", 128), 128);
        due("1" + Book.times("%", 128) + "?", 128);
        behind(WHOLE, "?", 0);
        behind(WHOLE, " 1", 1);
    }

    /** + before, brackets and spaces are no nodes: they may come where 128 nodes are. */
    private static void signsWithoutNodes() {
        behind(FULL, "", 0);
        behind(FULL, "+", 1);
        behind(FULL, "+++ ", 4);
        behind(FULL, "(", 1);
        behind(FULL, "(()", 2);
        behind(FULL, Book.times("(", 33), 32);
        behind(ONE_LEFT, "+(+(1))", -1);
        due("((" + WHOLE + "))", -1);
        due("f(" + Book.times("1+", 63) + "1)", -1);
        due("f(" + Book.times("1+", 63) + "(1) )", -1);
        behind("f(" + Book.times("1+", 63) + "1)", ")", 0);
    }

    /** A token that is not whole is none with which there would be more nodes: it is wrong where it can not go on. */
    private static void tokensThatAreNotWhole() {
        String[] begun = {
            "\"", "\"a", "\"a\"\"", ".", "1E", "1.5e-", "#", "#NUL", "#DIV/0", "$", "$A", "A$", "$A$", "XFD$", "S!", "S!$A", "S!A", "'", "'S",
            "'S'", "'T'", "'S'!", "'S'!A$"};
        for (String token : begun) {
            behind(FULL, token, token.length());
            behind(FULL + " ", token, token.length());
        }
        String[] broken = {".e5", "1E?", "1E+-1", "#NUX", "#REF?", "$1", "$A0", "$A1x", "$A1(", "$A1!", "$XFE1", "A$0", "A$1x", "S!x?", "S!A1x", "S!A1048577", "'S'A1"};
        int[] places = {1, 2, 3, 3, 4, 1, 2, 3, 3, 3, 3, 2, 3, 3, 4, 9, 3};
        for (int k = 0; k < broken.length; k++) {
            behind(FULL, broken[k], places[k]);
        }
        behind(FULL, "T!", 0);
        behind(FULL, "T!A", 0);
        behind(FULL, "''!", 0);
    }

    /** "(nothing counts with the comma or ) behind it". */
    private static void nothingWithItsSign() {
        String full = "f(" + Book.times("1+", 63) + "1,";
        behind(full, "", 0);
        behind(full, ")", 0);
        behind(full, ",", 0);
        behind(full, "   )", 3);
        behind(full, "   ,", 3);
        behind(full, "1)", 0);
        behind(full, "  x", 2);
        behind(full, "(", 1);
        behind(full, "+", 1);
        behind(full, "-", 0);
        String two = "f(" + Book.times("1+", 62) + "1,";
        behind(two, ")", -1);
        behind(two, "  )", -1);
        behind(two, ",)", -1);
        behind(two, ",,", 2);
        behind(two, ",,)", 2);
        behind(two, ", , ,", 4);
        behind(two, ",1,", 3);
        behind(two, ",1,1", 3);
        behind(two, "1)", -1);
        behind(two, "g()", 3);
        behind(two, "g())", -1);
        behind(two, "g( ))", -1);
        behind(two, "g(),)", -1);
        behind(two, "g(),,)", 5);
        behind(two, "g(,))", 3);
        behind(two, "g( , ))", 5);
        due(Book.times("-", 125) + "f(,)", -1);
        due(Book.times("-", 126) + "f(,)", 126 + 3);
        due(Book.times("-", 127) + "f(,)", 127 + 2);
        due(Book.times("-", 127) + "f( )", -1);
        due(Book.times("-", 128) + "f( )", 127 + 1);
    }

    /** ".. a cell with its prefix)". */
    private static void cellWithItsPrefix() {
        for (String cell : new String[] {"S!A1", "'S'!$A$1", "'it''s'!XFD1048576", "TRUE!A1:B2", "a1!A1 : B2"}) {
            behind(ONE_LEFT, cell, -1);
            behind(FULL, cell, 0);
            behind(FULL + " ( ", cell, 0);
        }
        behind(FULL, "S!A1?", 0);
        behind(FULL, "S!A1:", 0);
        behind(FULL, "S!A1:?", 0);
        behind(FULL, "S!?", 2);
    }

    /** A range's : and its second cell are no more nodes. */
    private static void rangesAreOneNode() {
        behind(ONE_LEFT, "A1:B2", -1);
        behind(ONE_LEFT, "A1 : $B$2", -1);
        behind(ONE_LEFT, "A1:B2%", 5);
        behind(ONE_LEFT, "A1:", 3);
        behind(ONE_LEFT, "A1:B", 4);
        behind(ONE_LEFT, "A1:B2:", 5);
    }

    /** "and a ( with which 33 would be open are wrong at their first character". */
    private static void brackets() {
        due(Book.times("(", 32) + "1" + Book.times(")", 32), -1);
        due(Book.times("(", 32), 32);
        due(Book.times("(", 33), 32);
        due(Book.times("(", 33) + "1" + Book.times(")", 33), 32);
        due(Book.times("( ", 33), 64);
        due(Book.times("f(", 32) + Book.times(")", 32), -1);
        due(Book.times("f(", 33), 65);
        due(Book.times("f(", 33) + Book.times(")", 33), 65);
        due(Book.times("f(", 32) + "ghi(", 67);
        due(Book.times("f(", 32) + "ghi", 67);
        due(Book.times("(f(", 16) + "(", 48);
        due(Book.times("(f(", 16) + "f(", 49);
        due(Book.times("(", 31) + "(1)+(2)+f(3)+f()" + Book.times(")", 31), -1);
        due(Book.times("(", 31) + "(1)+((", 36);
        due(Book.times("(", 32) + "\"(\"", 35);
        due(Book.times("(", 32) + "'('!A1", 32);
        due(Book.times("(", 32) + "1" + Book.times(")", 33), 65);
    }

    /** Where two limits meet, what is read first is wrong. */
    private static void twoLimits() {
        String open = Book.times("(", 32);
        due(open + FULL + "(", 32 + 128);
        due(open + FULL + "f(", 32 + 128);
        due(open + ONE_LEFT + "f(", 32 + 128);
        due(open + ONE_LEFT + "T!(", 32 + 127);
        due(open + "T!(", 32);
        due(open + WHOLE + "(", 32 + 128);
        String thirty = "f(" + Book.times("1,", 29);
        due(thirty + "1,", 61);
        due(thirty + ",", 60);
        due(thirty + "1)", -1);
        due(thirty + ")", -1);
        due(Book.times("-", 97) + thirty + ")", -1);
        due(Book.times("-", 98) + thirty + ")", 98 + 60);
        due(Book.times("-", 98) + thirty + "1)", 98 + 60);
        due(Book.times("-", 97) + thirty + "1,", 97 + 61);
        due("f(" + Book.times(",", 29) + ")", -1);
        due("f(" + Book.times(",", 30) + ")", 31);
        due("f(" + Book.times(",", 29) + "1,", 32);
        due("f(" + Book.times("g(1,1),", 29) + "g(1,1))", -1);
        due("f(" + Book.times("g(1,1),", 29) + "g(1,1),", 2 + 29 * 7 + 6);
    }

    /** "READING a text (at most 256 characters ..)": that no more could come does not make an earlier place wrong. */
    private static void lengthIsNoMatter() {
        due(Book.times(" ", 225) + Book.times("(", 31), 256);
        due(Book.times(" ", 224) + Book.times("(", 32), 256);
        due(Book.times(" ", 223) + Book.times("(", 33), 255);
        due(Book.times(" ", 253) + "(1+", 256);
        due(Book.times(" ", 254) + "1E", 256);
        due(Book.times(" ", 253) + "#DI", 256);
        due(Book.times(" ", 255) + "$", 256);
        due(Book.times(" ", 254) + "S!", 256);
        due(Book.times(" ", 254) + "T!", 254);
        due(Book.times(" ", 255) + "'", 256);
        due(Book.times(" ", 251) + "A1:B2", -1);
        due(Book.times(" ", 252) + "A1:B", 256);
    }

    private static void prefix(String name, boolean quoted) {
        FormulaTrees x = Book.of("first", name);
        String inQuotes = "'" + name.replace("'", "''") + "'!A1";
        Check.due("read of " + inQuotes, Book.read(x, 0, 0, inQuotes + "+" + inQuotes + ":B2"), -1);
        String due = quoted ? inQuotes : name + "!A1";
        Check.due("form of " + inQuotes, Book.form(x, 0), due + "+" + due + ":B2");
    }

    /** "with quotes (and ' doubled) unless it is a word that is not TRUE or FALSE, nor one to three letters and then digits alone". */
    private static void quotesOfPrefixes() {
        for (String name : new String[] {"A", "z", "AB", "abc", "ABCD", "_", "_1", "a_1", "a.1", "A1.", "A1_", "A1B", "abcd1", "a1b2", "A_", "TRUER", "xTRUE",
            "FALSE1", "TRUE_", "truE.", "x123456789012345678901234567y", "Sheet1", "S.", "abc1d", "T", "Tru", "fals"}) {
            prefix(name, false);
        }
        for (String name : new String[] {"A1", "a0", "ab00", "ABC1", "XFE1", "zzz99999999", "a1234567890", "xfd1048576", "xfd1048577", "TRUE", "true", "False",
            "fALSE", "1", "1a", ".a", "a b", " a", "a ", " ", "a-b", "a'b", "a''b", "a!b", "$A$1", "A$1", "a(", "#REF!", "\"a\"", "a,b", "a+", "-", "~"}) {
            prefix(name, true);
        }
    }

    private static void range(String text, String facts, String form) {
        FormulaTrees x = Book.of("S");
        Check.due("read of " + text, Book.read(x, 0, 0, text), -1);
        Check.due("facts of " + text, Book.facts(x, 0, 0), "5 0 -1 " + facts + " 0");
        Check.due("form of " + text, Book.form(x, 0), form);
        Check.due("read of its form", Book.read(x, 1, 0, form), -1);
        Check.due("the same as its form", x.same(0, 1), true);
    }

    /** "A range is that from the least to the greatest row, and column, of its two cells; each of the four keeps its $". */
    private static void dollarsOfRanges() {
        range("A1:B2", "1 1 2 2 0", "A1:B2");
        range("B2:A1", "1 1 2 2 0", "A1:B2");
        range("A2:B1", "1 1 2 2 0", "A1:B2");
        range("B1:A2", "1 1 2 2 0", "A1:B2");
        range("$B2:A1", "1 1 2 2 8", "A1:$B2");
        range("B$2:A1", "1 1 2 2 4", "A1:B$2");
        range("B2:$A1", "1 1 2 2 2", "$A1:B2");
        range("B2:A$1", "1 1 2 2 1", "A$1:B2");
        range("$A$2:B1", "1 1 2 2 6", "$A1:B$2");
        range("A2:$B$1", "1 1 2 2 9", "A$1:$B2");
        range("$B$1:A2", "1 1 2 2 9", "A$1:$B2");
        range("B1:$A$2", "1 1 2 2 6", "$A1:B$2");
        range("$B$2:$A$1", "1 1 2 2 15", "$A$1:$B$2");
        range("A1:A1", "1 1 1 1 0", "A1:A1");
        range("$A1:A1", "1 1 1 1 2", "$A1:A1");
        range("A1:$A1", "1 1 1 1 8", "A1:$A1");
        range("A$1:A1", "1 1 1 1 1", "A$1:A1");
        range("A1:A$1", "1 1 1 1 4", "A1:A$1");
        range("B$1:$A1", "1 1 1 2 3", "$A$1:B1");
        range("$B1:A$1", "1 1 1 2 12", "A1:$B$1");
        range("$A2:A$1", "1 1 2 1 3", "$A$1:A2");
        range("A$2:$A1", "1 1 2 1 12", "A1:$A$2");
        range("$XFD$1048576:A1", "1 1 1048576 16384 12", "A1:$XFD$1048576");
    }
}
