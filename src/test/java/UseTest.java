import java.nio.file.Files;
import java.nio.file.Path;

/** What README.md says of the use: its example, line by line, with the answers that it tells. */
public final class UseTest {
    private UseTest() {
    }

    public static void main(String[] args) throws Exception {
        example();
        calls(Files.readString(Path.of("README.md")));
        Check.end();
    }

    private static void example() {
        FormulaTrees x = new FormulaTrees();
        x.type('S');
        int sheet = x.sheet();
        Check.due("the sheet", sheet, 0);
        x.erase();
        x.type('A' << 24 | '1' << 16 | '+' << 8 | '2');
        Check.due("the place where it is wrong", x.read(0, sheet), FormulaTrees.NONE);
        x.move(0, 1, 1, sheet, 1);
        Check.due("formula 1", Book.form(x, 1), "B2+2");
        Check.due("nodes of it", x.size(1), 3);
        Check.due("the kind of its node 1", x.node(1, 1, 0), 4);
        Check.due("that node's row", x.node(1, 1, 3), 2);
        Check.due("nodes that are lost", x.shift(sheet, true, 2, -1), 1);
        Check.due("formula 1 then", Book.form(x, 1), "#REF!+2");
        Check.due("formula 0 stays", Book.form(x, 0), "A1+2");
        x.erase();
        x.type('1' << 8 | '+');
        Check.due("a wrong text", x.read(0, sheet), 2);
        Check.due("formula 0 stays then, too", Book.form(x, 0), "A1+2");
    }

    /** Each call of the face is named in README.md's list. */
    private static void calls(String readme) {
        for (var method : FormulaTrees.class.getDeclaredMethods()) {
            boolean isPublic = java.lang.reflect.Modifier.isPublic(method.getModifiers());
            if (isPublic && !readme.contains("| `" + method.getName() + "(")) {
                Check.fault("README.md does not name " + method.getName());
            }
        }
    }
}
