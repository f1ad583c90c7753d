/**
 * Promise 7: of many texts, right ones, faulty ones and ones at the limits, the place where they
 * are wrong, held against all ways of reading them by the document's grammar.
 */
public final class WaysTest {
    private static final String[] SHEETS = {"S", "Two x", "It's", "A1", "TRUE"};

    private WaysTest() {
    }

    public static void main(String[] args) {
        Texts texts = new Texts(11);
        int right = 0;
        int many = 150000;
        for (int round = 0; round < many; round++) {
            String text = texts.any();
            int due = due(text);
            right += due == -1 ? 1 : 0;
            Check.due("place in <" + text + ">", Book.place(text, SHEETS), due);
        }
        System.out.println(right + " of " + many + " texts are right");
        Check.end();
    }

    private static int due(String text) {
        Model model = new Model();
        for (String sheet : SHEETS) {
            model.sheets.add(sheet);
        }
        model.text = text;
        return model.place();
    }
}
