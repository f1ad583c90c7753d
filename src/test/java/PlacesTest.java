/**
 * Promise 7: the place where a text is wrong, of all texts that go on from a beginning by up to three
 * characters, held against all ways of reading them.
 */
public final class PlacesTest {
    private static final String SIGNS = "10.eA$S!:(,)+-<>=%\"'# N/_x";
    private static final String[] BEGINNINGS = {
        "", "f(", "f(1,", "(1", "1E", "$A", "$XF", "XFD", "XFD$", "A104857", "$A104857", "A$104857", "#N", "A1:", "A1:X",
        "S!", "TRUE", "\"a", "1<", "f((", "-", "A1 ", "S!A1:", "$A$1", "'S", "'S'", "''", "#DIV/0", "1.5E12",
        "1+".repeat(64), "-".repeat(126), "f(" + "1+".repeat(63) + "1", "f(" + "1+".repeat(63) + "1,", "(".repeat(31), "f(".repeat(32),
        "f(" + ",".repeat(28), "f(" + "1,".repeat(29)
    };

    private final Model model = new Model();
    private int texts = 0;

    private PlacesTest() {
        model.sheets.add("S");
    }

    public static void main(String[] args) {
        PlacesTest test = new PlacesTest();
        for (String beginning : BEGINNINGS) {
            test.follow(beginning, 3);
        }
        System.out.println(test.texts + " texts");
        Check.end();
    }

    private void follow(String text, int more) {
        texts++;
        model.text = text;
        int due = model.place();
        Check.due("place in <" + text + ">", Book.place(text, "S"), due);
        boolean isDead = due != -1 && due < text.length();
        // What comes behind a wrong place is no matter: one character more shows it.
        int further = isDead ? Math.min(more - 1, 0) : more - 1;
        for (int k = 0; k < SIGNS.length() && further >= 0 && !(isDead && more < 2); k++) {
            follow(text + SIGNS.charAt(k), further);
        }
    }
}
