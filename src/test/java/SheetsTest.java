/** Promises 4 to 6 and 17: sheet, rename, drop and name. */
public final class SheetsTest {
    private static final String LONGEST = "1234567890123456789012345678901";
    private static final String[] WRONG = {
        "", LONGEST + "2", "a:b", "a\\b", "a/b", "a?b", "a*b", "a[b", "a]b", "'a", "a'", "'", "''", ":", "a]"
    };

    private SheetsTest() {
    }

    public static void main(String[] args) {
        sheet();
        rename();
        drop();
        name();
        Check.end();
    }

    private static void sheet() {
        FormulaTrees x = new FormulaTrees();
        String[] names = {"Sheet1", "It's 2", " ", LONGEST, "!\"#$%&()+,-.;<=>@^_`{|}~", "A1", "a''b", "x"};
        for (int k = 0; k < names.length; k++) {
            for (int wrong = k; wrong < WRONG.length; wrong += 4) {
                Book.text(x, WRONG[wrong]);
                Check.argument("sheet() as " + WRONG[wrong], () -> x.sheet());
            }
            if (k > 0) {
                Book.text(x, names[k - 1].toUpperCase());
                Check.argument("sheet() with great letters", () -> x.sheet());
                Book.text(x, names[k - 1].toLowerCase());
                Check.argument("sheet() with small letters", () -> x.sheet());
            }
            Check.due("sheets so far", x.count(0), k);
            Book.text(x, names[k]);
            Check.due("sheet() as " + names[k], x.sheet(), k);
        }
        Check.argument("a ninth sheet with a name that another has", () -> x.sheet());
        Book.text(x, "a:b");
        Check.argument("a ninth sheet with no name", () -> x.sheet());
        Book.text(x, "y");
        Check.state("a ninth sheet", () -> x.sheet());
        Check.due("eight sheets", x.count(0), 8);
    }

    private static void rename() {
        FormulaTrees x = Book.of("One", "Two", "Three");
        Book.read(x, 0, 0, "Two!A1+two!B2:C3+One!A1");
        Book.text(x, "My Two");
        x.rename(1);
        Check.due("new name", Book.name(x, 1), "My Two");
        Check.due("form with the new name", Book.form(x, 0), "'My Two'!A1+'My Two'!B2:C3+One!A1");
        Check.due("the old name is wrong", Book.read(x, 1, 0, "1+Two!A1"), 2);
        Check.due("the new name is not", Book.read(x, 1, 0, "1+'my two'!A1"), -1);
        Book.text(x, "mY tWO");
        x.rename(1);
        Check.due("its own name with other letters", Book.name(x, 1), "mY tWO");
        for (String wrong : WRONG) {
            Book.text(x, wrong);
            Check.argument("rename as " + wrong, () -> x.rename(1));
            Check.index("rename as " + wrong + " of none", () -> x.rename(3));
        }
        Book.text(x, "THREE");
        Check.argument("rename as another one", () -> x.rename(1));
        Check.due("the name stays", Book.name(x, 1), "mY tWO");
        Book.text(x, "Four");
        Check.index("rename(-1)", () -> x.rename(-1));
        Check.index("rename(3)", () -> x.rename(3));
        Check.index("rename(8)", () -> x.rename(8));
        Book.text(x, LONGEST);
        x.rename(0);
        Check.due("the longest name", Book.name(x, 0), LONGEST);
    }

    private static void drop() {
        FormulaTrees x = Book.of("A", "B", "C", "D");
        Book.read(x, 0, 0, "A!A1+B!$A$1:B2+C!A1+D!A1+A1");
        Book.read(x, 1, 1, "A1+A!A1");
        Book.read(x, 2, 3, "B!A1:B2+A1+D!A$1");
        Check.index("drop(4)", () -> x.drop(4));
        Check.index("drop(-1)", () -> x.drop(-1));
        x.drop(1);
        Check.due("sheets left", x.count(0), 3);
        Check.due("formulas left", x.count(1), 2);
        Check.due("home before it", x.count(2), 0);
        Check.due("home on it", x.count(3), -1);
        Check.due("home behind it", x.count(4), 2);
        Check.due("names", Book.name(x, 0) + Book.name(x, 1) + Book.name(x, 2), "ACD");
        Check.index("a name no more", () -> x.name(3, 0));
        Check.index("its formula is no more", () -> x.size(1));
        Check.due("form", Book.form(x, 0), "A!A1+#REF!+C!A1+D!A1+A1");
        Check.due("form of one behind", Book.form(x, 2), "#REF!+A1+D!A$1");
        Check.due("the node that is lost", Book.facts(x, 0, 5), "2 0 -1 0 0 0 0 0 4");
        Check.due("a node behind", Book.facts(x, 0, 6), "4 0 1 1 1 1 1 0 0");
        Check.due("a node before", Book.facts(x, 0, 4), "4 0 0 1 1 1 1 0 0");
        Book.text(x, "b");
        Check.due("the name is free again", x.sheet(), 3);
        Check.due("it stays #REF!", Book.form(x, 2), "#REF!+A1+D!A$1");
        x.drop(0);
        x.drop(2);
        x.drop(0);
        x.drop(0);
        Check.due("no sheets", x.count(0), 0);
        Check.due("no formulas", x.count(1), 0);
        Check.index("drop(0)", () -> x.drop(0));
        quotesFollowNames();
        wholeFormulas();
        eachSheet();
    }

    /** "cells and ranges on it become #REF!": also one that is the whole formula. */
    private static void wholeFormulas() {
        FormulaTrees x = Book.of("S", "T", "U");
        Book.read(x, 0, 0, "T!$A$1");
        Book.read(x, 1, 2, "T!A1:B2");
        Book.read(x, 2, 0, "U!A1");
        Book.read(x, 3, 2, "-S!A1%");
        x.drop(1);
        Check.due("a cell", Book.facts(x, 0, 0), "2 0 -1 0 0 0 0 0 4");
        Check.due("a range", Book.facts(x, 1, 0), "2 0 -1 0 0 0 0 0 4");
        Check.due("one behind", Book.facts(x, 2, 0), "4 0 1 1 1 1 1 0 0");
        Check.due("one before", Book.facts(x, 3, 2), "4 0 0 1 1 1 1 0 0");
        Check.due("both are the same now", x.same(0, 1), true);
        Check.due("homes", x.count(2) + " " + x.count(3) + " " + x.count(4) + " " + x.count(5), "0 1 0 1");
    }

    /** "the sheets behind it have numbers less by 1": the first, one between, and the last of eight. */
    private static void eachSheet() {
        for (int gone = 0; gone < 8; gone++) {
            FormulaTrees x = Book.of("a_", "b_", "c_", "d_", "e_", "f_", "g_", "h_");
            for (int sheet = 0; sheet < 8; sheet++) {
                Book.read(x, sheet, sheet, (char) ('a' + (sheet + 1) % 8) + "_!A1");
            }
            x.drop(gone);
            Check.due("sheets", x.count(0), 7);
            Check.due("formulas", x.count(1), 7);
            Check.index("the eighth is no more", () -> x.name(7, 0));
            for (int sheet = 0; sheet < 8; sheet++) {
                int on = (sheet + 1) % 8;
                if (sheet == gone) {
                    int none = sheet;
                    Check.due("home", x.count(2 + sheet), -1);
                    Check.index("its formula", () -> x.size(none));
                } else {
                    int now = sheet > gone ? sheet - 1 : sheet;
                    Check.due("home", x.count(2 + sheet), now);
                    Check.due("name", Book.name(x, now), (char) ('a' + sheet) + "_");
                    Check.due("form", Book.form(x, sheet), on == gone ? "#REF!" : (char) ('a' + on) + "_!A1");
                    Check.due("on", x.node(sheet, 0, 2), on == gone ? -1 : on > gone ? on - 1 : on);
                }
            }
        }
    }

    private static void quotesFollowNames() {
        FormulaTrees x = Book.of("Plain", "A 1", "Other");
        Book.read(x, 0, 2, "Other!A1+'A 1'!A1");
        x.drop(0);
        Check.due("quotes behind drop", Book.form(x, 0), "Other!A1+'A 1'!A1");
    }

    private static void name() {
        FormulaTrees x = Book.of("aZ'9 ~");
        Check.due("the name", Book.name(x, 0), "aZ'9 ~");
        int[] outside = {-1, 6, 31, Integer.MIN_VALUE, Integer.MAX_VALUE};
        for (int k : outside) {
            Check.due("name(0, " + k + ")", x.name(0, k), -1);
        }
        Check.due("the last character", x.name(0, 5), '~');
        Book.text(x, LONGEST);
        x.sheet();
        Check.due("the last character of 31", x.name(1, 30), '1');
        Check.due("behind 31", x.name(1, 31), -1);
        Check.due("before them", x.name(1, -1), -1);
        x.drop(1);
        Check.index("name(1, 0)", () -> x.name(1, 0));
        Check.index("name(-1, 0)", () -> x.name(-1, 0));
    }
}
