import java.util.Random;

/**
 * All promises: runs of any calls with any numbers. Only exceptions that the face names come out,
 * and a call that throws, or that finds a text wrong, changes nothing.
 */
public final class AnyCallsTest {
    private static final String[] TEXTS = {
        "S", "s", "T", "A1", "It's", "true", "a:b", "1+A1", "S!A1:B2", "'It''s'!$A$1", "f(A1,,S!B2,T!C3)", "(1", "-x%", "\"a",
        "$B$2:A1", "sum(A1:XFD1048576)", "A1048576+XFD1", "1+1+1+1+1+1+1+1+1+1+1+1+1", "((((((((", "))))))))", ",,,,,,,,", "--------"
    };
    private static final int[] NUMBERS = {
        0, 1, 2, 3, 7, 8, 9, -1, -2, 127, 128, 16384, 16385, 1048575, 1048576, 1048577, -1048576, -1048577,
        Integer.MAX_VALUE, Integer.MIN_VALUE
    };

    private static final Random RANDOM = new Random(7);

    private AnyCallsTest() {
    }

    public static void main(String[] args) {
        for (int run = 0; run < 3000; run++) {
            FormulaTrees x = new FormulaTrees();
            for (int call = 0; call < 150; call++) {
                one(x);
            }
        }
        Check.end();
    }

    private static int number() {
        return RANDOM.nextInt(3) > 0 ? RANDOM.nextInt(4) : NUMBERS[RANDOM.nextInt(NUMBERS.length)];
    }

    private static void one(FormulaTrees x) {
        int call = RANDOM.nextInt(18);
        int[] a = {number(), number(), number(), number(), number()};
        String before = RANDOM.nextInt(20) == 0 ? all(x) : null;
        boolean stays = false;
        try {
            stays = run(x, call, a);
        } catch (IndexOutOfBoundsException e) {
            stays = e.getClass() == IndexOutOfBoundsException.class && call != 2 && call != 3 && call != 16 && call != 4 && call != 0;
            Check.due("call " + call + " may throw " + e, stays, true);
        } catch (IllegalArgumentException e) {
            stays = call == 0 || call == 4 || call == 5 || call == 8 || call == 9 || call == 13 || call == 16;
            Check.due("call " + call + " may throw " + e, stays, true);
        } catch (IllegalStateException e) {
            stays = call == 0 || call == 4 || call == 3;
            Check.due("call " + call + " may throw " + e, stays, true);
        } catch (RuntimeException e) {
            Check.fault("call " + call + " threw " + e);
        }
        if (stays && before != null && call != 3) {
            Check.due("all there is behind call " + call, all(x), before);
        }
    }

    /** Whether the call has changed nothing. */
    private static boolean run(FormulaTrees x, int call, int[] a) {
        switch (call) {
            case 0: x.type(RANDOM.nextInt()); return false;
            case 1: case 2: x.erase(); return false;
            case 3: add(x, TEXTS[RANDOM.nextInt(TEXTS.length)]); return false;
            case 4: x.sheet(); return false;
            case 5: x.rename(a[0]); return false;
            case 6: x.drop(RANDOM.nextInt(6) == 0 ? a[0] : -1); return false;
            case 7: return x.read(a[0], a[1]) != -1;
            case 8: x.move(a[0], a[1], a[2], a[3], a[4]); return false;
            case 9: x.shift(a[0], a[1] % 2 == 0, a[2], a[3]); return false;
            case 10: x.remove(RANDOM.nextInt(4) == 0 ? a[0] : 8); return false;
            case 11: x.form(a[0], a[1]); return true;
            case 12: x.size(a[0]); return true;
            case 13: x.node(a[0], a[1], a[2]); return true;
            case 14: x.letter(a[0], a[1], a[2]); return true;
            case 15: x.same(a[0], a[1]); return true;
            case 16: x.count(a[0]); return true;
            default: x.name(a[0], a[1]); return true;
        }
    }

    private static void add(FormulaTrees x, String text) {
        if (RANDOM.nextInt(3) > 0) {
            x.erase();
        }
        for (int k = 0; k < text.length(); k++) {
            x.type(text.charAt(k));
        }
    }

    /** All that can be asked for. */
    private static String all(FormulaTrees x) {
        StringBuilder out = new StringBuilder();
        out.append(x.type(0));
        for (int what = 0; what <= 9; what++) {
            out.append(' ').append(x.count(what));
        }
        for (int sheet = 0; sheet < x.count(0); sheet++) {
            out.append('|').append(Book.name(x, sheet));
        }
        for (int formula = 0; formula < 8; formula++) {
            if (x.count(formula + 2) != -1) {
                out.append('|').append(Book.form(x, formula)).append(' ').append(Book.tree(x, formula));
            }
        }
        return out.toString();
    }
}
