/**
 * Formulas of sheets: characters are read into trees by the ranks of operators, trees are written
 * in one form, and their references move with copies, rows, columns and sheets.
 */
public final class FormulaTrees {
    public static final int NONE = -1;

    private static final int MOST_FORMULAS = 8;
    private static final int MOST_SHEETS = 8;
    private static final int MOST_TEXT = 256;
    private static final int MOST_NAME = 31;
    private static final int MOST_NODES = 128;
    private static final int MOST_OPEN = 32;
    private static final int MOST_ARGUMENTS = 30;
    private static final int LAST_ROW = 1048576;
    private static final int LAST_COLUMN = 16384;
    private static final int FARTHEST = 1048576;

    private static final int NUMBER = 0;
    private static final int TEXT = 1;
    private static final int ERROR = 2;
    private static final int TRUTH = 3;
    private static final int CELL = 4;
    private static final int RANGE = 5;
    private static final int WORD = 6;
    private static final int CALL = 7;
    private static final int NOTHING = 8;
    private static final int PERCENT = 9;
    private static final int MINUS_BEFORE = 10;
    private static final int POWER = 11;
    private static final int TIMES = 12;
    private static final int DIVIDED = 13;
    private static final int PLUS = 14;
    private static final int MINUS = 15;
    private static final int JOINED = 16;
    private static final int EQUAL = 17;
    private static final int UNEQUAL = 18;
    private static final int LESS = 19;
    private static final int GREATER = 20;
    private static final int LESS_OR_EQUAL = 21;
    private static final int GREATER_OR_EQUAL = 22;

    // What is told of a node has the numbers that the face gives it; the last two find its letters.
    private static final int KIND = 0;
    private static final int CHILDREN = 1;
    private static final int ON = 2;
    private static final int TOP = 3;
    private static final int LEFT = 4;
    private static final int BOTTOM = 5;
    private static final int RIGHT = 6;
    private static final int DOLLARS = 7;
    private static final int VALUE = 8;
    private static final int TOLD = 9;
    private static final int LETTERS_FROM = 9;
    private static final int LETTERS = 10;
    private static final int FACTS = 11;

    private static final int MOST_ERRORS = 7;
    private static final int LONGEST_ERROR = 7;
    private static final int REF = 4;

    // What the reader wants next; only where it wants an argument may there be nothing.
    private static final int ARGUMENT = 0;
    private static final int OPERAND = 1;
    private static final int REFERENCE = 2;
    private static final int RANGE_END = 3;
    private static final int BEHIND = 4;
    private static final int BEHIND_CELL = 5;

    private static final int RANK_BEFORE = 6;
    private static final int RANK_PERCENT = 7;
    private static final int RANK_PRIMARY = 8;

    private final Letters text;
    private final Sheets sheets;
    private final Tree[] trees;
    private final int[] homes;
    private final Reader reader;
    private final Writer writer;
    private Tree spare;

    public FormulaTrees() {
        text = new Letters(MOST_TEXT);
        sheets = new Sheets();
        trees = new Tree[MOST_FORMULAS];
        homes = new int[MOST_FORMULAS];
        for (int formula = 0; formula < homes.length; formula++) {
            homes[formula] = NONE;
        }
        spare = new Tree();
        reader = new Reader(text, sheets, spare);
        writer = new Writer(sheets, spare);
    }

    public int type(int word) throws IllegalArgumentException, IllegalStateException {
        int more = 0;
        for (int bits = 24; bits >= 0; bits -= 8) {
            int sign = (word >>> bits) & 255;
            if (sign != 0 && (sign < 32 || sign > 126)) {
                throw new IllegalArgumentException("a byte is not 32 .. 126");
            }
            more += sign != 0 ? 1 : 0;
        }
        if (text.length() + more > MOST_TEXT) {
            throw new IllegalStateException("the text would be too long");
        }
        for (int bits = 24; bits >= 0; bits -= 8) {
            int sign = (word >>> bits) & 255;
            if (sign != 0) {
                text.add(sign);
            }
        }
        return text.length();
    }

    public void erase() {
        text.clear();
    }

    public int sheet() throws IllegalArgumentException, IllegalStateException {
        if (!sheets.mayBear(text, NONE)) {
            throw new IllegalArgumentException("the text is no name that a new sheet may have");
        }
        if (sheets.isFull()) {
            throw new IllegalStateException("there are 8 sheets");
        }
        return sheets.found(text);
    }

    public void rename(int sheet) throws IndexOutOfBoundsException, IllegalArgumentException {
        if (!sheets.has(sheet)) {
            throw new IndexOutOfBoundsException("there is no such sheet");
        }
        if (!sheets.mayBear(text, sheet)) {
            throw new IllegalArgumentException("the text is no name that this sheet may have");
        }
        sheets.giveName(sheet, text);
    }

    public void drop(int sheet) throws IndexOutOfBoundsException {
        if (!sheets.has(sheet)) {
            throw new IndexOutOfBoundsException("there is no such sheet");
        }
        sheets.takeAway(sheet);
        for (int formula = 0; formula < MOST_FORMULAS; formula++) {
            Tree tree = treeOf(formula);
            if (tree != null) {
                tree.loseSheet(sheet);
                homes[formula] = homeWithout(homes[formula], sheet);
            }
        }
    }

    public int read(int formula, int home) throws IndexOutOfBoundsException {
        if (!isPlace(formula) || !sheets.has(home)) {
            throw new IndexOutOfBoundsException("there is no such formula or sheet");
        }
        int wrong = reader.readInto(spare);
        if (wrong == NONE) {
            Tree old = trees[formula];
            trees[formula] = spare;
            homes[formula] = home;
            spare = old == null ? new Tree() : old;
        }
        return wrong;
    }

    public void move(int formula, int rows, int columns, int home, int to)
            throws IndexOutOfBoundsException, IllegalArgumentException {
        Tree from = treeOf(formula);
        if (!isPlace(to) || from == null || !sheets.has(home)) {
            throw new IndexOutOfBoundsException("there is no such formula or sheet");
        }
        if (!isWay(rows) || !isWay(columns)) {
            throw new IllegalArgumentException("rows or columns are too many");
        }
        Tree moved = trees[to];
        if (moved == null) {
            moved = new Tree();
            trees[to] = moved;
        }
        if (to != formula) {
            moved.become(from);
        }
        moved.moveBy(rows, columns);
        homes[to] = home;
    }

    public int shift(int sheet, boolean rows, int k, int n)
            throws IndexOutOfBoundsException, IllegalArgumentException {
        if (!sheets.has(sheet)) {
            throw new IndexOutOfBoundsException("there is no such sheet");
        }
        if (k < 1 || k > lastOf(rows) || !isWay(n)) {
            throw new IllegalArgumentException("k is no row or column, or n is too far");
        }
        int lost = 0;
        for (int formula = 0; formula < MOST_FORMULAS; formula++) {
            Tree tree = treeOf(formula);
            if (tree != null) {
                lost += tree.shiftOn(sheet, homes[formula] == sheet, rows, k, n);
            }
        }
        return lost;
    }

    public void remove(int formula) throws IndexOutOfBoundsException {
        if (treeOf(formula) == null) {
            throw new IndexOutOfBoundsException("there is no such formula");
        }
        homes[formula] = NONE;
    }

    public int form(int formula, int k) throws IndexOutOfBoundsException {
        Tree tree = treeOf(formula);
        if (tree == null) {
            throw new IndexOutOfBoundsException("there is no such formula");
        }
        return writer.character(tree, k);
    }

    public int size(int formula) throws IndexOutOfBoundsException {
        Tree tree = treeOf(formula);
        if (tree == null) {
            throw new IndexOutOfBoundsException("there is no such formula");
        }
        return tree.nodes();
    }

    public int node(int formula, int node, int what)
            throws IndexOutOfBoundsException, IllegalArgumentException {
        Tree tree = treeOf(formula);
        if (tree == null || !tree.has(node)) {
            throw new IndexOutOfBoundsException("there is no such formula or node");
        }
        if (what < 0 || what >= TOLD) {
            throw new IllegalArgumentException("what is not 0 .. 8");
        }
        return tree.fact(node, what);
    }

    public int letter(int formula, int node, int k) throws IndexOutOfBoundsException {
        Tree tree = treeOf(formula);
        if (tree == null || !tree.has(node)) {
            throw new IndexOutOfBoundsException("there is no such formula or node");
        }
        return tree.letterOf(node, k);
    }

    public boolean same(int one, int two) throws IndexOutOfBoundsException {
        Tree first = treeOf(one);
        Tree second = treeOf(two);
        if (first == null || second == null) {
            throw new IndexOutOfBoundsException("there is no such formula");
        }
        return first.isLike(second);
    }

    public int count(int what) throws IllegalArgumentException {
        if (what < 0 || what > MOST_FORMULAS + 1) {
            throw new IllegalArgumentException("what is not 0 .. 9");
        }
        if (what == 0) {
            return sheets.howMany();
        }
        return what == 1 ? formulasThere() : homes[what - 2];
    }

    public int name(int sheet, int k) throws IndexOutOfBoundsException {
        if (!sheets.has(sheet)) {
            throw new IndexOutOfBoundsException("there is no such sheet");
        }
        return sheets.nameLetter(sheet, k);
    }

    private static boolean isPlace(int formula) {
        return formula >= 0 && formula < MOST_FORMULAS;
    }

    private static boolean isWay(int by) {
        return by >= -FARTHEST && by <= FARTHEST;
    }

    private static int lastOf(boolean rows) {
        return rows ? LAST_ROW : LAST_COLUMN;
    }

    private static int homeWithout(int home, int sheet) {
        if (home == sheet) {
            return NONE;
        }
        return home > sheet ? home - 1 : home;
    }

    /** The tree of a formula that is there, or null. */
    private Tree treeOf(int formula) {
        return isPlace(formula) && homes[formula] != NONE ? trees[formula] : null;
    }

    private int formulasThere() {
        int there = 0;
        for (int formula = 0; formula < homes.length; formula++) {
            there += homes[formula] != NONE ? 1 : 0;
        }
        return there;
    }

    /** How strongly a node of a kind binds: more binds more. */
    private static int rankOf(int kind) {
        switch (kind) {
            case PERCENT:
                return RANK_PERCENT;
            case MINUS_BEFORE:
                return RANK_BEFORE;
            case POWER:
                return 5;
            case TIMES:
            case DIVIDED:
                return 4;
            case PLUS:
            case MINUS:
                return 3;
            case JOINED:
                return 2;
            default:
                return kind >= EQUAL && kind <= GREATER_OR_EQUAL ? 1 : RANK_PRIMARY;
        }
    }

    /** The error with a number 1 .. 7. */
    private static String errorName(int number) {
        switch (number) {
            case 1:
                return "#NULL!";
            case 2:
                return "#DIV/0!";
            case 3:
                return "#VALUE!";
            case REF:
                return "#REF!";
            case 5:
                return "#NAME?";
            case 6:
                return "#NUM!";
            default:
                return "#N/A";
        }
    }

    /** Kinds of signs; NONE, which stands for the end of a text, is none of them. */
    private static final class Signs {
        static boolean isDigit(int sign) {
            return sign >= '0' && sign <= '9';
        }

        static boolean isLetter(int sign) {
            return sign >= 'A' && sign <= 'Z' || sign >= 'a' && sign <= 'z';
        }

        static boolean beginsWord(int sign) {
            return isLetter(sign) || sign == '_';
        }

        static boolean goesOnInWord(int sign) {
            return isLetter(sign) || isDigit(sign) || sign == '_' || sign == '.';
        }

        static int great(int sign) {
            return sign >= 'a' && sign <= 'z' ? sign - 'a' + 'A' : sign;
        }
    }

    /** A row of characters with a fixed room: what is beyond it is NONE and is not taken. */
    private static final class Letters {
        private final char[] room;
        private int length;

        Letters(int most) {
            room = new char[most < 0 ? 0 : most];
        }

        int length() {
            return length;
        }

        int at(int k) {
            return k >= 0 && k < length ? room[k] : NONE;
        }

        void clear() {
            length = 0;
        }

        void add(int sign) {
            if (length < room.length) {
                room[length] = (char) sign;
                length++;
            }
        }

        void become(Letters other) {
            clear();
            for (int k = 0; k < other.length(); k++) {
                add(other.at(k));
            }
        }

        /** Whether the characters are the same, small and great letters being no matter. */
        boolean isLike(Letters other) {
            boolean like = length == other.length();
            for (int k = 0; k < length && like; k++) {
                like = Signs.great(at(k)) == Signs.great(other.at(k));
            }
            return like;
        }

        /** Whether the first so many characters of a word in great letters stand at a place. */
        boolean spells(String word, int many, int from) {
            boolean like = many <= word.length();
            for (int k = 0; k < many && like; k++) {
                like = Signs.great(at(from + k)) == word.charAt(k);
            }
            return like;
        }

        /** 1 when the characters from .. to - 1 are TRUE, 0 when they are FALSE, or NONE. */
        int truthIn(int from, int to) {
            if (to - from == 4 && spells("TRUE", 4, from)) {
                return 1;
            }
            return to - from == 5 && spells("FALSE", 5, from) ? 0 : NONE;
        }

        /** Where the word that begins at a place ends; the place itself when none begins there. */
        int wordEnd(int from) {
            int end = from;
            if (Signs.beginsWord(at(from))) {
                while (end < length && Signs.goesOnInWord(at(end))) {
                    end++;
                }
            }
            return end;
        }
    }

    /** The sheets, by their names. */
    private static final class Sheets {
        private final Letters[] names;
        private final boolean[] quoted;
        private int many;

        Sheets() {
            names = new Letters[MOST_SHEETS];
            quoted = new boolean[MOST_SHEETS];
            for (int sheet = 0; sheet < names.length; sheet++) {
                names[sheet] = new Letters(MOST_NAME);
            }
        }

        int howMany() {
            return many;
        }

        boolean isFull() {
            return many >= MOST_SHEETS;
        }

        boolean has(int sheet) {
            return sheet >= 0 && sheet < many;
        }

        int nameLetter(int sheet, int k) {
            return has(sheet) ? names[sheet].at(k) : NONE;
        }

        /** The sheet with a name, or NONE. */
        int withName(Letters name) {
            for (int sheet = 0; sheet < many; sheet++) {
                if (names[sheet].isLike(name)) {
                    return sheet;
                }
            }
            return NONE;
        }

        /** Whether a sheet (NONE: a new one) may have a name. */
        boolean mayBear(Letters name, int sheet) {
            int bearer = withName(name);
            return isName(name) && (bearer == NONE || bearer == sheet);
        }

        private static boolean isName(Letters name) {
            int length = name.length();
            boolean fit = length >= 1 && length <= MOST_NAME;
            for (int k = 0; k < length && fit; k++) {
                fit = ":\\/?*[]".indexOf((char) name.at(k)) < 0;
            }
            return fit && name.at(0) != '\'' && name.at(length - 1) != '\'';
        }

        /** A new sheet's number. */
        int found(Letters name) {
            if (isFull()) {
                return NONE;
            }
            many++;
            giveName(many - 1, name);
            return many - 1;
        }

        void giveName(int sheet, Letters name) {
            if (has(sheet)) {
                names[sheet].become(name);
                quoted[sheet] = needsQuotes(name);
            }
        }

        void takeAway(int sheet) {
            if (has(sheet)) {
                for (int behind = sheet + 1; behind < many; behind++) {
                    giveName(behind - 1, names[behind]);
                }
                many--;
            }
        }

        /** Whether the sheet's name is written with quotes in a prefix. */
        boolean isQuoted(int sheet) {
            return has(sheet) && quoted[sheet];
        }

        private static boolean needsQuotes(Letters name) {
            int length = name.length();
            boolean isWord = name.wordEnd(0) == length;
            return !isWord || name.truthIn(0, length) != NONE || looksLikeCell(name);
        }

        private static boolean looksLikeCell(Letters name) {
            int letters = 0;
            while (letters < name.length() && Signs.isLetter(name.at(letters))) {
                letters++;
            }
            int end = letters;
            while (end < name.length() && Signs.isDigit(name.at(end))) {
                end++;
            }
            return letters >= 1 && letters <= 3 && end > letters && end == name.length();
        }
    }

    /** One cell's characters, read for its row, its column and its $. */
    private static final class CellReader {
        private int end;
        private int row;
        private int column;
        private int dollars;

        /** Behind the cell, or, when it is none, at the first character that can not belong to one. */
        int end() {
            return end;
        }

        int row() {
            return row;
        }

        int column() {
            return column;
        }

        /** 1 when the row has $, and 2 when the column has. */
        int dollars() {
            return dollars;
        }

        boolean readFrom(Letters text, int start) {
            end = start;
            row = 0;
            column = 0;
            dollars = 0;
            if (text.at(end) == '$') {
                dollars += 2;
                end++;
            }
            if (!readColumn(text)) {
                return false;
            }
            if (text.at(end) == '$') {
                dollars += 1;
                end++;
            }
            return readRow(text) && mayStandBehind(text.at(end));
        }

        private boolean readColumn(Letters text) {
            int letters = 0;
            while (letters < 3 && Signs.isLetter(text.at(end))) {
                int wider = column * 26 + Signs.great(text.at(end)) - 'A' + 1;
                if (wider > LAST_COLUMN) {
                    return false;
                }
                column = wider;
                letters++;
                end++;
            }
            return letters > 0;
        }

        private boolean readRow(Letters text) {
            int digits = 0;
            while (digits < 7 && Signs.isDigit(text.at(end))) {
                int longer = row * 10 + text.at(end) - '0';
                if (longer < 1 || longer > LAST_ROW) {
                    return false;
                }
                row = longer;
                digits++;
                end++;
            }
            return digits > 0;
        }

        private static boolean mayStandBehind(int sign) {
            return !Signs.goesOnInWord(sign) && sign != '(' && sign != '!';
        }
    }

    /** A formula's nodes in their order: each one before its children. */
    private static final class Tree {
        private final int[] facts = new int[MOST_NODES * FACTS];
        private final Letters letters = new Letters(MOST_TEXT);
        private int nodes;

        int nodes() {
            return nodes;
        }

        boolean isFull() {
            return nodes >= MOST_NODES;
        }

        boolean has(int node) {
            return node >= 0 && node < nodes;
        }

        int fact(int node, int what) {
            boolean there = node >= 0 && node < nodes && what >= 0 && what < FACTS;
            return there ? facts[node * FACTS + what] : NONE;
        }

        void put(int node, int what, int value) {
            if (node >= 0 && node < nodes && what >= 0 && what < FACTS) {
                facts[node * FACTS + what] = value;
            }
        }

        int letterOf(int node, int k) {
            boolean there = k >= 0 && k < fact(node, LETTERS);
            return there ? letters.at(fact(node, LETTERS_FROM) + k) : NONE;
        }

        void clear() {
            nodes = 0;
            letters.clear();
        }

        /** A new node at a place; those from there on come behind it. */
        void insert(int place, int kind, int children) {
            if (isFull() || place < 0 || place > nodes) {
                return;
            }
            for (int index = nodes * FACTS - 1; index >= place * FACTS; index--) {
                facts[index + FACTS] = facts[index];
            }
            nodes++;
            makePlain(place, kind, children);
        }

        private void makePlain(int node, int kind, int children) {
            if (node < 0 || node >= nodes) {
                return;
            }
            int first = node * FACTS;
            for (int what = 0; what < FACTS; what++) {
                facts[first + what] = 0;
            }
            facts[first + KIND] = kind;
            facts[first + CHILDREN] = children;
            facts[first + ON] = NONE;
        }

        void giveLetters(int node, Letters held) {
            put(node, LETTERS_FROM, letters.length());
            put(node, LETTERS, held.length());
            for (int k = 0; k < held.length(); k++) {
                letters.add(held.at(k));
            }
        }

        void become(Tree other) {
            nodes = other.nodes;
            System.arraycopy(other.facts, 0, facts, 0, facts.length);
            letters.become(other.letters);
        }

        boolean isLike(Tree other) {
            boolean like = nodes == other.nodes;
            for (int node = 0; node < nodes && like; node++) {
                like = hasLikeNode(other, node);
            }
            return like;
        }

        private boolean hasLikeNode(Tree other, int node) {
            boolean like = fact(node, LETTERS) == other.fact(node, LETTERS);
            for (int what = 0; what < TOLD && like; what++) {
                like = fact(node, what) == other.fact(node, what);
            }
            for (int k = 0; k < fact(node, LETTERS) && like; k++) {
                like = letterOf(node, k) == other.letterOf(node, k);
            }
            return like;
        }

        void becomeCell(int node, CellReader cell) {
            put(node, TOP, cell.row());
            put(node, LEFT, cell.column());
            put(node, BOTTOM, cell.row());
            put(node, RIGHT, cell.column());
            put(node, DOLLARS, cell.dollars());
        }

        /** A cell becomes the range from it to another one. */
        void becomeRange(int node, CellReader last) {
            put(node, KIND, RANGE);
            put(node, BOTTOM, last.row());
            put(node, RIGHT, last.column());
            put(node, DOLLARS, fact(node, DOLLARS) + last.dollars() * 4);
            putInOrder(node);
        }

        private boolean isReference(int node) {
            return fact(node, KIND) == CELL || fact(node, KIND) == RANGE;
        }

        private void putInOrder(int node) {
            if (fact(node, TOP) > fact(node, BOTTOM)) {
                exchange(node, TOP);
            }
            if (fact(node, LEFT) > fact(node, RIGHT)) {
                exchange(node, LEFT);
            }
        }

        /** A range's first row or column and its last one change places, each with its $. */
        private void exchange(int node, int first) {
            int held = fact(node, first);
            put(node, first, fact(node, first + 2));
            put(node, first + 2, held);
            int one = first == TOP ? 1 : 2;
            int dollars = fact(node, DOLLARS);
            int others = dollars & ~(one * 5);
            put(node, DOLLARS, others + (dollars & one) * 4 + (dollars & one * 4) / 4);
        }

        private void lose(int node) {
            makePlain(node, ERROR, 0);
            put(node, VALUE, REF);
        }

        void loseSheet(int sheet) {
            for (int node = 0; node < nodes; node++) {
                int on = fact(node, ON);
                if (on == sheet) {
                    lose(node);
                } else if (on > sheet) {
                    put(node, ON, on - 1);
                }
            }
        }

        void moveBy(int rows, int columns) {
            for (int node = 0; node < nodes; node++) {
                if (isReference(node)) {
                    moveNode(node, rows, columns);
                }
            }
        }

        private void moveNode(int node, int rows, int columns) {
            boolean fit = true;
            for (int what = TOP; what <= RIGHT && fit; what++) {
                boolean isRow = what == TOP || what == BOTTOM;
                int moved = fact(node, what);
                if (!hasDollar(node, what)) {
                    moved += isRow ? rows : columns;
                }
                fit = moved >= 1 && moved <= lastOf(isRow);
                put(node, what, moved);
            }
            if (fit) {
                putInOrder(node);
            } else {
                lose(node);
            }
        }

        private boolean hasDollar(int node, int what) {
            // A cell has the $ of its row and column once, but is held as its own last one, too.
            boolean once = what <= LEFT || fact(node, KIND) == CELL;
            boolean isRow = what == TOP || what == BOTTOM;
            int dollar = (isRow ? 1 : 2) * (once ? 1 : 4);
            return (fact(node, DOLLARS) & dollar) != 0;
        }

        /** Puts n rows or columns in on a sheet, or takes -n out; answers how many nodes are lost. */
        int shiftOn(int sheet, boolean atHome, boolean rows, int k, int n) {
            int lost = 0;
            for (int node = 0; node < nodes; node++) {
                int on = fact(node, ON);
                if (isReference(node) && (on == sheet || on == NONE && atHome)) {
                    boolean stays = n < 0 ? takeOut(node, rows, k, -n) : putIn(node, rows, k, n);
                    if (!stays) {
                        lose(node);
                        lost++;
                    }
                }
            }
            return lost;
        }

        /** Whether something of the node is left behind putting n in before k. */
        private boolean putIn(int node, boolean rows, int k, int n) {
            int first = fact(node, rows ? TOP : LEFT);
            int last = fact(node, rows ? BOTTOM : RIGHT);
            first += first >= k ? n : 0;
            last += last >= k ? n : 0;
            put(node, rows ? TOP : LEFT, first);
            put(node, rows ? BOTTOM : RIGHT, Math.min(last, lastOf(rows)));
            return first <= lastOf(rows);
        }

        /** Whether something of the node is left behind taking n out from k on. */
        private boolean takeOut(int node, boolean rows, int k, int n) {
            int first = fact(node, rows ? TOP : LEFT);
            int last = fact(node, rows ? BOTTOM : RIGHT);
            int behind = k + n;
            boolean stays = first < k || last >= behind;
            if (first >= k) {
                first = Math.max(first - n, k);
            }
            if (last >= k) {
                last = Math.max(last - n, k - 1);
            }
            put(node, rows ? TOP : LEFT, first);
            put(node, rows ? BOTTOM : RIGHT, last);
            return stays;
        }
    }

    /** Operators whose last operand is not at its end yet: their ranks and where their nodes are. */
    private static final class Pending {
        private final int[] ranks = new int[MOST_NODES];
        private final int[] places = new int[MOST_NODES];
        private int many;

        int many() {
            return many;
        }

        void cutTo(int fewer) {
            if (fewer >= 0 && fewer < many) {
                many = fewer;
            }
        }

        void add(int rank, int place) {
            if (many < MOST_NODES) {
                ranks[many] = rank;
                places[many] = place;
                many++;
            }
        }

        /** Ends those above a base that bind at least so much; answers where what they end begins. */
        int endFrom(int base, int rank, int operand) {
            int begin = operand;
            while (many > base && many > 0 && ranks[many - 1] >= rank) {
                many--;
                begin = places[many];
            }
            return begin;
        }
    }

    /** Brackets that are open, of calls and of others. */
    private static final class Brackets {
        private final int[] places = new int[MOST_OPEN];
        private final int[] arguments = new int[MOST_OPEN];
        private final int[] bases = new int[MOST_OPEN];
        private int open;

        int open() {
            return open;
        }

        void clear() {
            open = 0;
        }

        /** Where what is in them begins, how many arguments it has (NONE: no call), and the operators outside. */
        void add(int place, int given, int base) {
            if (open < MOST_OPEN) {
                places[open] = place;
                arguments[open] = given;
                bases[open] = base;
                open++;
            }
        }

        void close() {
            if (open > 0) {
                open--;
            }
        }

        int place() {
            return open > 0 ? places[open - 1] : 0;
        }

        int arguments() {
            return open > 0 ? arguments[open - 1] : NONE;
        }

        boolean areOfCall() {
            return arguments() != NONE;
        }

        void addArgument() {
            if (open > 0) {
                arguments[open - 1]++;
            }
        }

        int base() {
            return open > 0 ? bases[open - 1] : 0;
        }
    }

    /**
     * Reads the text into a tree, from left to right and without going back. An operator's node is
     * put in before its first operand, so that the nodes are in their order all the time.
     */
    private static final class Reader {
        private final Letters text;
        private final Sheets sheets;
        private final Letters held = new Letters(MOST_TEXT);
        private final CellReader cell = new CellReader();
        private final Pending pending = new Pending();
        private final Brackets brackets = new Brackets();
        private Tree tree;
        private int at;
        private int wrong;
        private int wants;
        private int operand;
        private int start;
        private int prefix;

        Reader(Letters text, Sheets sheets, Tree tree) {
            this.text = text;
            this.sheets = sheets;
            this.tree = tree;
        }

        /** NONE, or the place where the text is wrong. */
        int readInto(Tree into) {
            tree = into;
            tree.clear();
            pending.cutTo(0);
            brackets.clear();
            at = 0;
            wrong = NONE;
            wants = OPERAND;
            skipSpaces();
            // Of two steps one at least reads a character.
            for (int step = 0; step < 2 * MOST_TEXT && at < text.length() && wrong == NONE; step++) {
                if (wants >= BEHIND) {
                    readBehindOperand(text.at(at));
                } else if (wants == REFERENCE) {
                    readReference();
                } else if (wants == RANGE_END) {
                    readRangeEnd();
                } else {
                    readOperand(text.at(at));
                }
                if (wants != REFERENCE) {
                    skipSpaces();
                }
            }
            if (wrong == NONE && (wants < BEHIND || brackets.open() > 0)) {
                wrong = text.length();
            }
            return wrong;
        }

        private void skipSpaces() {
            while (at < text.length() && text.at(at) == ' ') {
                at++;
            }
        }

        /** Whether there is room for a node; if not, the token that begins at a place is wrong. */
        private boolean hasRoom(int place) {
            boolean room = !tree.isFull();
            if (!room) {
                wrong = place;
            }
            return room;
        }

        private void endOperand(int node) {
            operand = node;
            wants = BEHIND;
        }

        private void readOperand(int sign) {
            switch (sign) {
                case '"':
                    readText();
                    break;
                case '#':
                    readError();
                    break;
                case '$':
                    wantReference(at, NONE);
                    break;
                case '\'':
                    readQuotedPrefix();
                    break;
                case '(':
                    openBrackets(tree.nodes(), NONE);
                    break;
                case '+':
                    at++;
                    wants = OPERAND;
                    break;
                case '-':
                    readMinusBefore();
                    break;
                case ',':
                case ')':
                    readNothing(sign == ')');
                    break;
                default:
                    if (Signs.isDigit(sign) || sign == '.') {
                        readNumber();
                    } else if (Signs.beginsWord(sign)) {
                        readWord();
                    } else {
                        wrong = at;
                    }
            }
        }

        private void readMinusBefore() {
            if (hasRoom(at)) {
                pending.add(RANK_BEFORE, tree.nodes());
                tree.insert(tree.nodes(), MINUS_BEFORE, 1);
                wants = OPERAND;
                at++;
            }
        }

        private void openBrackets(int place, int arguments) {
            if (brackets.open() >= MOST_OPEN) {
                wrong = at;
                return;
            }
            brackets.add(place, arguments, pending.many());
            wants = arguments == NONE ? OPERAND : ARGUMENT;
            at++;
        }

        private void readNothing(boolean byBracket) {
            if (wants != ARGUMENT) {
                wrong = at;
            } else if (byBracket && brackets.arguments() == 0) {
                closeBrackets();
            } else if (hasRoom(at)) {
                tree.insert(tree.nodes(), NOTHING, 0);
                endArgument(byBracket);
            }
        }

        /** An argument is at its end, by ) or by a comma. */
        private void endArgument(boolean byBracket) {
            if (!byBracket && brackets.arguments() + 2 > MOST_ARGUMENTS) {
                wrong = at;
                return;
            }
            brackets.addArgument();
            if (byBracket) {
                closeBrackets();
            } else {
                pending.cutTo(brackets.base());
                wants = ARGUMENT;
                at++;
            }
        }

        private void closeBrackets() {
            int place = brackets.place();
            if (brackets.areOfCall()) {
                tree.put(place, CHILDREN, brackets.arguments());
            }
            pending.cutTo(brackets.base());
            brackets.close();
            endOperand(place);
            at++;
        }

        private void readBehindOperand(int sign) {
            if (sign == ':' && wants == BEHIND_CELL) {
                wants = RANGE_END;
                at++;
            } else if (sign == '%') {
                readPercent();
            } else if ((sign == ',' || sign == ')') && brackets.areOfCall()) {
                endArgument(sign == ')');
            } else if (sign == ')' && brackets.open() > 0) {
                closeBrackets();
            } else {
                readBetween(kindBetween(sign, text.at(at + 1)));
            }
        }

        private void readPercent() {
            if (hasRoom(at)) {
                tree.insert(operand, PERCENT, 1);
                wants = BEHIND;
                at++;
            }
        }

        /** The kind of an operator between two operands, by its character and the next one; or NONE. */
        private static int kindBetween(int sign, int next) {
            switch (sign) {
                case '^':
                    return POWER;
                case '*':
                    return TIMES;
                case '/':
                    return DIVIDED;
                case '+':
                    return PLUS;
                case '-':
                    return MINUS;
                case '&':
                    return JOINED;
                case '=':
                    return EQUAL;
                case '<':
                    return next == '>' ? UNEQUAL : next == '=' ? LESS_OR_EQUAL : LESS;
                case '>':
                    return next == '=' ? GREATER_OR_EQUAL : GREATER;
                default:
                    return NONE;
            }
        }

        private void readBetween(int kind) {
            if (kind == NONE) {
                wrong = at;
            } else if (hasRoom(at)) {
                int rank = rankOf(kind);
                int begin = pending.endFrom(brackets.base(), rank, operand);
                tree.insert(begin, kind, 2);
                pending.add(rank, begin);
                wants = OPERAND;
                boolean isLong = kind == UNEQUAL || kind == LESS_OR_EQUAL || kind == GREATER_OR_EQUAL;
                at += isLong ? 2 : 1;
            }
        }

        private int skipDigits(int most) {
            int digits = 0;
            while (digits < most && Signs.isDigit(text.at(at))) {
                digits++;
                at++;
            }
            return digits;
        }

        private void readNumber() {
            int from = at;
            int digits = skipDigits(MOST_TEXT);
            if (text.at(at) == '.') {
                at++;
                digits += skipDigits(MOST_TEXT);
            }
            boolean fit = digits > 0;
            if (fit && Signs.great(text.at(at)) == 'E') {
                at++;
                at += text.at(at) == '+' || text.at(at) == '-' ? 1 : 0;
                fit = skipDigits(3) > 0;
            }
            if (fit) {
                hold(from, at);
                keepHeld(NUMBER, from);
            } else {
                wrong = at;
            }
        }

        /** Holds the text's characters from .. to - 1 in great letters. */
        private void hold(int from, int to) {
            held.clear();
            for (int k = from; k < to; k++) {
                held.add(Signs.great(text.at(k)));
            }
        }

        /** Holds what stands in quotes from here on; answers whether they are closed. */
        private boolean holdQuoted(int quote) {
            boolean closed = false;
            held.clear();
            at++;
            while (at < text.length() && !closed) {
                boolean isQuote = text.at(at) == quote;
                closed = isQuote && text.at(at + 1) != quote;
                if (!closed) {
                    held.add(text.at(at));
                }
                at += isQuote && !closed ? 2 : 1;
            }
            return closed;
        }

        /** A new node for a token that began at a place, with the letters that are held. */
        private void keepHeld(int kind, int from) {
            if (hasRoom(from)) {
                int node = tree.nodes();
                tree.insert(node, kind, 0);
                tree.giveLetters(node, held);
                endOperand(node);
            }
        }

        private void keepValue(int kind, int value, int from) {
            if (hasRoom(from)) {
                int node = tree.nodes();
                tree.insert(node, kind, 0);
                tree.put(node, VALUE, value);
                endOperand(node);
            }
        }

        private void readText() {
            int from = at;
            if (holdQuoted('"')) {
                keepHeld(TEXT, from);
            } else {
                wrong = at;
            }
        }

        private void readError() {
            int from = at;
            int found = 0;
            for (int many = 1; many <= LONGEST_ERROR && found == 0; many++) {
                int number = errorThatBegins(from, many);
                if (number == 0) {
                    wrong = from + many - 1;
                    return;
                }
                found = errorName(number).length() == many ? number : 0;
            }
            at = from + errorName(found).length();
            keepValue(ERROR, found, from);
        }

        /** An error's number whose first characters are those at a place; 0 when there is none. */
        private int errorThatBegins(int from, int many) {
            for (int number = 1; number <= MOST_ERRORS; number++) {
                if (text.spells(errorName(number), many, from)) {
                    return number;
                }
            }
            return 0;
        }

        private void readWord() {
            int from = at;
            int end = text.wordEnd(from);
            int next = text.at(end);
            boolean mayBeCell = next != '(';
            if (next == '!') {
                hold(from, end);
                at = end;
                endPrefix(from);
            } else if (mayBeCell && cell.readFrom(text, from)) {
                wantReference(from, NONE);
            } else if (mayBeCell && cell.end() > end) {
                // The $ behind the word left only a cell to come.
                wrong = cell.end();
            } else {
                keepWord(from, end, next == '(');
            }
        }

        private void keepWord(int from, int end, boolean isCall) {
            int truth = isCall ? NONE : text.truthIn(from, end);
            at = end;
            if (truth != NONE) {
                keepValue(TRUTH, truth, from);
                return;
            }
            hold(from, end);
            keepHeld(isCall ? CALL : WORD, from);
            if (isCall && wrong == NONE) {
                openBrackets(operand, 0);
            }
        }

        private void readQuotedPrefix() {
            int from = at;
            if (holdQuoted('\'') && text.at(at) == '!') {
                endPrefix(from);
            } else {
                wrong = at;
            }
        }

        /** At the ! behind the prefix that is held. */
        private void endPrefix(int from) {
            int sheet = sheets.withName(held);
            if (sheet == NONE) {
                wrong = from;
            } else {
                at++;
                wantReference(from, sheet);
            }
        }

        /** A cell must come here, of a token that began at a place. */
        private void wantReference(int from, int sheet) {
            start = from;
            prefix = sheet;
            wants = REFERENCE;
        }

        private void readReference() {
            if (!cell.readFrom(text, at)) {
                wrong = cell.end();
            } else if (hasRoom(start)) {
                int node = tree.nodes();
                tree.insert(node, CELL, 0);
                tree.put(node, ON, prefix);
                tree.becomeCell(node, cell);
                endOperand(node);
                wants = BEHIND_CELL;
                at = cell.end();
            }
        }

        private void readRangeEnd() {
            if (cell.readFrom(text, at)) {
                tree.becomeRange(operand, cell);
                wants = BEHIND;
                at = cell.end();
            } else {
                wrong = cell.end();
            }
        }
    }

    /** Writes a tree's form, of which it keeps one character alone. */
    private static final class Writer {
        private final Sheets sheets;
        private final int[] begun = new int[MOST_NODES];
        private final int[] written = new int[MOST_NODES];
        private final boolean[] bracketed = new boolean[MOST_NODES];
        private int depth;
        private Tree tree;
        private int next;
        private boolean isNew;
        private int place;
        private int wanted;
        private int answer;

        Writer(Sheets sheets, Tree tree) {
            this.sheets = sheets;
            this.tree = tree;
        }

        /** Character k of a tree's form, or NONE. */
        int character(Tree of, int k) {
            tree = of;
            depth = 0;
            next = 0;
            place = 0;
            wanted = k;
            answer = NONE;
            begin(false);
            // Each node is begun, written and ended once.
            for (int step = 0; step < 3 * MOST_NODES && depth > 0 && place <= wanted; step++) {
                if (isNew) {
                    isNew = false;
                    writeBeginning(begun[depth - 1]);
                } else {
                    goOn(begun[depth - 1], written[depth - 1]);
                }
            }
            return answer;
        }

        private void write(int sign) {
            if (place == wanted) {
                answer = sign;
            }
            place++;
        }

        private void writeAll(String signs) {
            for (int k = 0; k < signs.length(); k++) {
                write(signs.charAt(k));
            }
        }

        /** The innermost node that is begun: its next child, or its end. */
        private void goOn(int node, int children) {
            int kind = tree.fact(node, KIND);
            if (children >= tree.fact(node, CHILDREN)) {
                end(kind);
                return;
            }
            if (children > 0) {
                writeAll(kind == CALL ? "," : signBetween(kind));
            }
            begin(needsBrackets(kind, children));
        }

        private void begin(boolean inBrackets) {
            if (depth >= MOST_NODES) {
                return;
            }
            if (depth > 0) {
                written[depth - 1]++;
            }
            if (inBrackets) {
                write('(');
            }
            begun[depth] = next;
            written[depth] = 0;
            bracketed[depth] = inBrackets;
            depth++;
            next++;
            isNew = true;
        }

        private void end(int kind) {
            if (kind == PERCENT) {
                write('%');
            } else if (kind == CALL) {
                write(')');
            }
            if (depth > 0) {
                depth--;
                if (bracketed[depth]) {
                    write(')');
                }
            }
        }

        /** Whether the next node would not be read as that child of a node of a kind without brackets. */
        private boolean needsBrackets(int kind, int child) {
            if (kind == CALL) {
                return false;
            }
            int rank = rankOf(kind);
            int inner = rankOf(tree.fact(next, KIND));
            return inner < rank || inner == rank && child > 0;
        }

        private static String signBetween(int kind) {
            switch (kind) {
                case POWER:
                    return "^";
                case TIMES:
                    return "*";
                case DIVIDED:
                    return "/";
                case PLUS:
                    return "+";
                case MINUS:
                    return "-";
                case JOINED:
                    return "&";
                case EQUAL:
                    return "=";
                case UNEQUAL:
                    return "<>";
                case LESS:
                    return "<";
                case GREATER:
                    return ">";
                case LESS_OR_EQUAL:
                    return "<=";
                default:
                    return ">=";
            }
        }

        /** All of a node that stands before its children. */
        private void writeBeginning(int node) {
            switch (tree.fact(node, KIND)) {
                case NUMBER:
                case WORD:
                    writeLetters(node);
                    break;
                case TEXT:
                    writeText(node);
                    break;
                case ERROR:
                    writeAll(errorName(tree.fact(node, VALUE)));
                    break;
                case TRUTH:
                    writeAll(tree.fact(node, VALUE) == 1 ? "TRUE" : "FALSE");
                    break;
                case CELL:
                case RANGE:
                    writeReference(node);
                    break;
                case CALL:
                    writeLetters(node);
                    write('(');
                    break;
                case MINUS_BEFORE:
                    write('-');
                    break;
                default:
                    break;
            }
        }

        private void writeLetters(int node) {
            for (int k = 0; k < tree.fact(node, LETTERS); k++) {
                write(tree.letterOf(node, k));
            }
        }

        private void writeText(int node) {
            write('"');
            for (int k = 0; k < tree.fact(node, LETTERS); k++) {
                writeDoubling(tree.letterOf(node, k), '"');
            }
            write('"');
        }

        private void writeDoubling(int sign, int quote) {
            write(sign);
            if (sign == quote) {
                write(sign);
            }
        }

        private void writeReference(int node) {
            int sheet = tree.fact(node, ON);
            int dollars = tree.fact(node, DOLLARS);
            if (sheet != NONE) {
                writePrefix(sheet);
            }
            writeCell(tree.fact(node, TOP), tree.fact(node, LEFT), dollars);
            if (tree.fact(node, KIND) == RANGE) {
                write(':');
                writeCell(tree.fact(node, BOTTOM), tree.fact(node, RIGHT), dollars / 4);
            }
        }

        private void writePrefix(int sheet) {
            boolean quoted = sheets.isQuoted(sheet);
            if (quoted) {
                write('\'');
            }
            for (int k = 0; k < MOST_NAME && sheets.nameLetter(sheet, k) != NONE; k++) {
                writeDoubling(sheets.nameLetter(sheet, k), '\'');
            }
            if (quoted) {
                write('\'');
            }
            write('!');
        }

        private void writeCell(int row, int column, int dollars) {
            if ((dollars & 2) != 0) {
                write('$');
            }
            writeColumn(column);
            if ((dollars & 1) != 0) {
                write('$');
            }
            writeRow(row);
        }

        private void writeColumn(int column) {
            // 26 columns have one letter and 676 have two.
            int before = column - 1;
            if (before >= 26 + 676) {
                write('A' + (before - 26 - 676) / 676);
            }
            if (before >= 26) {
                write('A' + (before - 26) / 26 % 26);
            }
            write('A' + before % 26);
        }

        private void writeRow(int row) {
            for (int unit = 1000000; unit > 0; unit /= 10) {
                if (row >= unit) {
                    write('0' + row / unit % 10);
                }
            }
        }
    }
}
