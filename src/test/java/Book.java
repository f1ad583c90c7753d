/**
 * Calls of FormulaTrees with texts in place of single words and characters. An object is promised
 * 512 calls alone, so no test makes more on one; a long form is asked for one call a character.
 */
final class Book {
    private Book() {
    }

    static FormulaTrees of(String... sheets) {
        FormulaTrees x = new FormulaTrees();
        for (String sheet : sheets) {
            text(x, sheet);
            x.sheet();
        }
        return x;
    }

    /** The text in place of the one before. */
    static void text(FormulaTrees x, String text) {
        x.erase();
        for (int k = 0; k < text.length(); k += 4) {
            int word = 0;
            for (int i = k; i < k + 4 && i < text.length(); i++) {
                word = word << 8 | text.charAt(i);
            }
            x.type(word);
        }
    }

    static int read(FormulaTrees x, int formula, int home, String text) {
        text(x, text);
        return x.read(formula, home);
    }

    /** Where a text is wrong when it is read in a book with these sheets. */
    static int place(String text, String... sheets) {
        return read(of(sheets), 0, 0, text);
    }

    static String form(FormulaTrees x, int formula) {
        StringBuilder signs = new StringBuilder();
        int sign = x.form(formula, 0);
        for (int k = 1; sign != FormulaTrees.NONE; k++) {
            signs.append((char) sign);
            sign = x.form(formula, k);
        }
        return signs.toString();
    }

    static String name(FormulaTrees x, int sheet) {
        StringBuilder signs = new StringBuilder();
        int sign = x.name(sheet, 0);
        for (int k = 1; sign != FormulaTrees.NONE; k++) {
            signs.append((char) sign);
            sign = x.name(sheet, k);
        }
        return signs.toString();
    }

    static String letters(FormulaTrees x, int formula, int node) {
        StringBuilder signs = new StringBuilder();
        int sign = x.letter(formula, node, 0);
        for (int k = 1; sign != FormulaTrees.NONE; k++) {
            signs.append((char) sign);
            sign = x.letter(formula, node, k);
        }
        return signs.toString();
    }

    /** What is told of a node by the numbers 0 .. 8. */
    static String facts(FormulaTrees x, int formula, int node) {
        StringBuilder facts = new StringBuilder();
        for (int what = 0; what <= 8; what++) {
            facts.append(what == 0 ? "" : " ").append(x.node(formula, node, what));
        }
        return facts.toString();
    }

    /** All nodes: kind, letters or place, and children in brackets. */
    static String tree(FormulaTrees x, int formula) {
        StringBuilder out = new StringBuilder();
        int end = tree(x, formula, 0, out);
        if (end != x.size(formula)) {
            out.append(" and nodes that are no one's");
        }
        return out.toString();
    }

    private static int tree(FormulaTrees x, int formula, int node, StringBuilder out) {
        int kind = x.node(formula, node, 0);
        out.append(kind);
        if (kind == 4 || kind == 5) {
            for (int what = 2; what <= 7; what++) {
                out.append(what == 2 ? "@" : ",").append(x.node(formula, node, what));
            }
        } else if (kind == 2 || kind == 3) {
            out.append('=').append(x.node(formula, node, 8));
        } else {
            String letters = letters(x, formula, node);
            out.append(letters.isEmpty() ? "" : ":" + letters);
        }
        int next = node + 1;
        int children = x.node(formula, node, 1);
        for (int child = 0; child < children; child++) {
            out.append(child == 0 ? "(" : " ");
            next = tree(x, formula, next, out);
        }
        out.append(children > 0 ? ")" : "");
        return next;
    }

    static String times(String text, int many) {
        return text.repeat(many);
    }
}
