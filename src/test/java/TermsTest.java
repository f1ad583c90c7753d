/**
 * The section 'Terms' up to the tokens, and the sentences before it: one method for each sentence
 * that names a boundary, with the sentence before it.
 */
public final class TermsTest {
    private static final String FORBIDDEN = ":\\/?*[]";

    private TermsTest() {
    }

    public static void main(String[] args) {
        manyCalls();
        sheets();
        lengthsOfNames();
        signsOfNames();
        endsOfNames();
        namesOfTwo();
        rows();
        columns();
        allColumns();
        formulas();
        lengthOfText();
        signsOfText();
        spacesAround();
        spacesInTokens();
        smallAndGreat();
        spacesInCalls();
        Check.end();
    }

    /** "An object is used for at most 512 calls after it has been made". */
    private static void manyCalls() {
        FormulaTrees x = new FormulaTrees();
        x.type('S');
        x.sheet();
        for (int call = 3; call <= 509; call++) {
            Check.due("call " + call, x.count(0), 1);
        }
        x.type('%');
        x.read(0, 0);
        Check.due("call 512", x.type(0), 2);
        FormulaTrees y = new FormulaTrees();
        y.type('S');
        y.sheet();
        for (int read = 0; read < 250; read++) {
            y.read(read % 8, 0);
            y.move(read % 8, 1, 1, 0, (read + 1) % 8);
        }
        Check.due("formulas behind 502 calls", y.count(1), 8);
        y.drop(0);
        Check.due("none behind drop", y.count(1), 0);
    }

    /** "SHEETS 0, 1, .. (at most 8)". */
    private static void sheets() {
        FormulaTrees x = new FormulaTrees();
        for (int sheet = 0; sheet < 8; sheet++) {
            x.type('a');
            Check.due("sheet " + sheet, x.sheet(), sheet);
            Check.due("so many", x.count(0), sheet + 1);
        }
        x.type('a');
        Check.state("a ninth", () -> x.sheet());
        Check.due("still eight", x.count(0), 8);
        x.drop(7);
        Check.due("an eighth again", x.sheet(), 7);
        x.drop(0);
        x.type('a');
        Check.due("and again", x.sheet(), 7);
        Check.due("the name of the first one", Book.name(x, 0), "aa");
        Check.due("the name of the last one", Book.name(x, 7), "aaaaaaaaaa");
    }

    private static void isName(String name, boolean due) {
        FormulaTrees x = Book.of("first one");
        Book.text(x, name);
        if (due) {
            Check.due("sheet <" + name + ">", x.sheet(), 1);
            Check.due("its name", Book.name(x, 1), name);
        } else {
            Check.argument("sheet <" + name + ">", () -> x.sheet());
            Check.argument("rename <" + name + ">", () -> x.rename(0));
            Check.due("sheets beside <" + name + ">", x.count(0), 1);
            Check.due("the name stays", Book.name(x, 0), "first one");
        }
        FormulaTrees y = Book.of("first one");
        Book.text(y, name);
        if (due) {
            y.rename(0);
            Check.due("renamed", Book.name(y, 0), name);
        }
    }

    /** "1 to 31 characters". */
    private static void lengthsOfNames() {
        for (int length : new int[] {0, 1, 2, 30, 31, 32, 33, 255, 256}) {
            isName(Book.times("n", length), length >= 1 && length <= 31);
        }
    }

    /** "of 32 .. 126, none of them one of : \ / ? * [ ]". */
    private static void signsOfNames() {
        for (char sign = 32; sign <= 126; sign++) {
            boolean fit = FORBIDDEN.indexOf(sign) < 0;
            isName("a" + sign + "b", fit);
            isName("" + sign, fit && sign != '\'');
            isName(sign + "b", fit && sign != '\'');
            isName("a" + sign, fit && sign != '\'');
        }
    }

    /** "the first and last one not '". */
    private static void endsOfNames() {
        isName("'", false);
        isName("''", false);
        isName("'a'", false);
        isName("a'", false);
        isName("'a", false);
        isName("a'b", true);
        isName("a''b", true);
        isName(" ' ", true);
    }

    /** "no two are the same, small and great letters being no matter". */
    private static void namesOfTwo() {
        for (char one = 32; one <= 126; one++) {
            for (char two = 32; two <= 126; two++) {
                if (FORBIDDEN.indexOf(one) < 0 && FORBIDDEN.indexOf(two) < 0) {
                    FormulaTrees x = Book.of("a" + one + "b");
                    Book.text(x, "A" + two + "B");
                    boolean same = Character.toUpperCase(one) == Character.toUpperCase(two);
                    if (same) {
                        Check.argument(one + " beside " + two, () -> x.sheet());
                    } else {
                        Check.due(one + " beside " + two, x.sheet(), 1);
                    }
                }
            }
        }
        FormulaTrees x = Book.of("ab", "abc", "b");
        Book.text(x, "Ab");
        Check.argument("another one's name", () -> x.rename(1));
        x.rename(0);
        Check.due("its own name", Book.name(x, 0), "Ab");
        Book.text(x, "a");
        Check.due("a name's beginning is another name", x.sheet(), 3);
        Book.text(x, "abcd");
        Check.due("a longer one is, too", x.sheet(), 4);
    }

    private static void cell(String text, int row, int column) {
        FormulaTrees x = Book.of("S");
        Check.due("read of " + text, Book.read(x, 0, 0, text), -1);
        Check.due("facts of " + text, Book.facts(x, 0, 0),
            "4 0 -1 " + row + " " + column + " " + row + " " + column + " 0 0");
        Check.due("form of " + text, Book.form(x, 0), text.toUpperCase());
    }

    private static void noCell(String text) {
        FormulaTrees x = Book.of("S");
        Check.due("read of " + text, Book.read(x, 0, 0, text), -1);
        Check.due("kind of " + text, x.node(0, 0, 0), 6);
        Check.due("letters of " + text, Book.letters(x, 0, 0), text.toUpperCase());
        Check.due("form of " + text, Book.form(x, 0), text.toUpperCase());
    }

    /** "CELLS have ROWS 1 .. 1048576". */
    private static void rows() {
        cell("A1", 1, 1);
        cell("A9", 9, 1);
        cell("A10", 10, 1);
        cell("A999999", 999999, 1);
        cell("A1000000", 1000000, 1);
        cell("A1048575", 1048575, 1);
        cell("A1048576", 1048576, 1);
        noCell("A0");
        noCell("A00");
        noCell("A01");
        noCell("A1048577");
        noCell("A1048580");
        noCell("A1050000");
        noCell("A1100000");
        noCell("A2000000");
        noCell("A9999999");
        noCell("A10000000");
        noCell("A4294967297");
        noCell("A18446744073709551617");
    }

    /** "and COLUMNS 1 .. 16384; columns are written with letters: A .. Z, AA .. ZZ, AAA .. XFD". */
    private static void columns() {
        String[] letters = {"A", "B", "Y", "Z", "AA", "AZ", "BA", "ZA", "ZY", "ZZ", "AAA", "AAZ", "ABA", "AZZ", "BAA", "XEZ", "XFA", "XFC", "XFD"};
        int[] numbers = {1, 2, 25, 26, 27, 52, 53, 677, 701, 702, 703, 728, 729, 1378, 1379, 16380, 16381, 16383, 16384};
        for (int k = 0; k < letters.length; k++) {
            cell(letters[k] + "7", 7, numbers[k]);
            cell(letters[k].toLowerCase() + "1048576", 1048576, numbers[k]);
        }
        for (String beyond : new String[] {"XFE", "XFZ", "XGA", "XZZ", "YAA", "ZAA", "ZZZ", "AAAA", "AAAAAAA", "_", "A_"}) {
            noCell(beyond + "1");
            noCell(beyond.toLowerCase() + "1");
        }
    }

    /** Each column is written as it is read, and comes behind the one before. */
    private static void allColumns() {
        FormulaTrees x = Book.of("S");
        for (int column = 1; column <= 16384; column += 1 + column / 800) {
            x = Book.of("S");
            Book.read(x, 0, 0, "A1");
            x.move(0, 0, column - 1, 0, 1);
            String form = Book.form(x, 1);
            Check.due("column of " + form, x.node(1, 0, 4), column);
            Check.due("read of " + form, Book.read(x, 2, 0, form), -1);
            Check.due("the same column", x.same(1, 2), true);
        }
    }

    /** "FORMULAS 0 .. 7 are there or not; each has a HOME (a sheet) and a tree." */
    private static void formulas() {
        FormulaTrees x = Book.of("S", "T", "U");
        for (int formula = 0; formula < 8; formula++) {
            Check.due("home before", x.count(2 + formula), -1);
            Check.due("read", Book.read(x, formula, formula % 3, "A" + (formula + 1)), -1);
            Check.due("so many", x.count(1), formula + 1);
        }
        for (int formula = 0; formula < 8; formula++) {
            Check.due("home of " + formula, x.count(2 + formula), formula % 3);
            Check.due("row of " + formula, x.node(formula, 0, 3), formula + 1);
            x.remove(formula);
            Check.due("home behind", x.count(2 + formula), -1);
            Check.due("so many less", x.count(1), 7 - formula);
        }
        Check.index("an eighth behind 7", () -> x.read(8, 0));
        Check.index("one before 0", () -> x.read(-1, 0));
    }

    /** "READING a text (at most 256 characters ..)". */
    private static void lengthOfText() {
        Check.due("256 characters", Book.place("\"" + Book.times("x", 254) + "\"", "S"), -1);
        Check.due("256 digits", Book.place(Book.times("9", 256), "S"), -1);
        Check.due("a word of 256", Book.place(Book.times("w", 256), "S"), -1);
        Check.due("256 spaces", Book.place(Book.times(" ", 256), "S"), 256);
        Check.due("255 spaces and a number", Book.place(Book.times(" ", 255) + "1", "S"), -1);
        Check.due("a number and 255 spaces", Book.place("1" + Book.times(" ", 255), "S"), -1);
        Check.due("256 characters of a text that is open", Book.place("\"" + Book.times("x", 255), "S"), 256);
        Check.due("256 characters and an open bracket", Book.place("(" + Book.times("9", 255), "S"), 256);
        Check.due("256 characters, the last an operator", Book.place(Book.times("9", 255) + "+", "S"), 256);
        Check.due("256 characters, the last one wrong", Book.place(Book.times("9", 255) + "!", "S"), 255);
        Check.due("256 characters, a quote open", Book.place("'" + Book.times("x", 255), "S"), 256);
        Check.due("256 characters, only signs before", Book.place(Book.times("+", 256), "S"), 256);
        FormulaTrees x = Book.of("S");
        Book.read(x, 0, 0, "f(" + Book.times("w", 253) + ")");
        Check.due("the longest word in a call", x.letter(0, 1, 252), 'W');
        Check.due("behind it", x.letter(0, 1, 253), -1);
        Check.due("the form's end", x.form(0, 255), ')');
        Check.due("behind the form", x.form(0, 256), -1);
        Check.due("a formula with no characters", Book.place("", "S"), 0);
    }

    /** "of 32 .. 126". */
    private static void signsOfText() {
        for (char sign = 32; sign <= 126; sign++) {
            String text = "\"" + sign + (sign == '"' ? "\"" : "") + "\"";
            FormulaTrees x = Book.of("S");
            Check.due("read of " + text, Book.read(x, 0, 0, text), -1);
            Check.due("letters of " + text, Book.letters(x, 0, 0), "" + sign);
            Check.due("form of " + text, Book.form(x, 0), text);
            boolean begins = Character.isLetterOrDigit(sign) || "_+-(\"'#$. ".indexOf(sign) >= 0;
            if (!begins) {
                Check.due("no formula begins with " + sign, Book.place(sign + "1", "S"), 0);
            }
            boolean goesOn = Character.isDigit(sign) || "+-*/^&=<>% .eE".indexOf(sign) >= 0;
            if (!goesOn) {
                Check.due("no number goes on with " + sign, Book.place("1" + sign + "1", "S"), 1);
            }
        }
    }

    /** "spaces may stand before, between and behind TOKENS". */
    private static void spacesAround() {
        String text = "- S!$A$1 : B2 % ^ + 2.5E1 * \"a\" / #N/A & TRUE = x <> f( 1 , , ( 2 ) ) <= 3 >= 4 < 5 > 6";
        FormulaTrees x = Book.of("S");
        Check.due("spaces", Book.read(x, 0, 0, text), -1);
        Check.due("more spaces", Book.read(x, 1, 0, ("  " + text + "  ").replace(" ", "  ")), -1);
        Check.due("no spaces", Book.read(x, 2, 0, text.replace(" ", "")), -1);
        Check.due("the same with more", x.same(0, 1), true);
        Check.due("the same without", x.same(0, 2), true);
        Check.due("the form has none", Book.form(x, 0),
            "-S!$A$1:B2%^2.5E1*\"a\"/#N/A&TRUE=X<>F(1,,2)<=3>=4<5>6");
    }

    /** "and not in them (but in texts and in quotes)". */
    private static void spacesInTokens() {
        String[] texts = {
            "1 2", "1. 5", "1 .5", ". 5", "1 E5", "1E 5", "1E+ 5", "1E5 5", "# N/A", "#N /A", "#N/ A", "#DIV/0 !",
            "a b", "a .b", "a _", "$ A1", "$A $1", "$A 1", "A $1", "A$ 1", "A1 1", "A 1", "AB C1", "S !A1", "S! A1",
            "'S' !A1", "'S'! A1", "' S'!A1", "'S '!A1", "1< >2", "1< =2", "1> =2", "f (1)", "TRU E"};
        int[] places = {
            2, 3, 2, 1, 2, 2, 3, 4, 1, 2, 3, 6,
            2, 2, 2, 1, 2, 2, 2, 2, 3, 2, 3, 2, 2,
            3, 4, 0, 0, 3, 3, 3, 2, 4};
        for (int k = 0; k < texts.length; k++) {
            Check.due("a space in " + texts[k], Book.place(texts[k], "S"), places[k]);
        }
        FormulaTrees x = Book.of("My S  x", "S");
        Check.due("spaces in texts and in quotes", Book.read(x, 0, 1, "\" a  b \"&'my s  x'!A1"), -1);
        Check.due("they are kept", Book.form(x, 0), "\" a  b \"&'My S  x'!A1");
        Check.due("less of them is another name", Book.read(x, 0, 1, "\" a  b \"&'my s x'!A1"), 9);
    }

    /** "Letters are no matter small or great, but in texts (of a prefix, in quotes too, they are no matter)." */
    private static void smallAndGreat() {
        FormulaTrees x = Book.of("Sheet", "It's");
        String text = "fn.x(1.5e3,true,false,#div/0!,$xfd$9:a1,sheet!zz1,'it''s'!b2,'sheet'!a1,na_me)&\"aB\"";
        Check.due("small letters", Book.read(x, 0, 0, text), -1);
        Check.due("great letters", Book.read(x, 1, 0, text.toUpperCase()), -1);
        Check.due("not the same for the text", x.same(0, 1), false);
        Check.due("great letters but in the text", Book.read(x, 1, 0, text.toUpperCase().replace("AB", "aB")), -1);
        Check.due("the same", x.same(0, 1), true);
    }

    /** "Spaces may stand between a call's brackets, too." */
    private static void spacesInCalls() {
        FormulaTrees x = Book.of("S");
        Check.due("none", Book.read(x, 0, 0, "f()"), -1);
        Check.due("spaces", Book.read(x, 1, 0, " f(   ) "), -1);
        Check.due("the same", x.same(0, 1), true);
        Check.due("no arguments", x.node(1, 0, 1), 0);
        Check.due("its form", Book.form(x, 1), "F()");
        Check.due("spaces by a comma", Book.read(x, 2, 0, "f(  ,  )"), -1);
        Check.due("two arguments", x.node(2, 0, 1), 2);
        Check.due("none between other brackets", Book.read(x, 3, 0, "( )"), 2);
        Check.due("nor in them within a call", Book.read(x, 3, 0, "f(( ))"), 4);
    }
}
