/** Counts and prints the answers of a test that are not as due. */
final class Check {
    private static int wrong = 0;

    interface Call {
        void run();
    }

    private Check() {
    }

    static void due(String call, long got, long want) {
        if (got != want) {
            fault(call + " answered " + got + ", due is " + want);
        }
    }

    static void due(String call, String got, String want) {
        if (!got.equals(want)) {
            fault(call + " answered <" + got + ">, due is <" + want + ">");
        }
    }

    static void due(String call, boolean got, boolean want) {
        if (got != want) {
            fault(call + " answered " + got + ", due is " + want);
        }
    }

    static void index(String name, Call call) {
        thrown(name, call, IndexOutOfBoundsException.class);
    }

    static void argument(String name, Call call) {
        thrown(name, call, IllegalArgumentException.class);
    }

    static void state(String name, Call call) {
        thrown(name, call, IllegalStateException.class);
    }

    private static void thrown(String name, Call call, Class<?> due) {
        Class<?> got = null;
        try {
            call.run();
        } catch (RuntimeException e) {
            got = e.getClass();
        }
        if (got != due) {
            fault(name + " threw " + got + ", due is " + due);
        }
    }

    static void fault(String text) {
        wrong++;
        if (wrong <= 50) {
            System.out.println(text);
        }
    }

    /** Ends the test: with exit code 1 when an answer was not as due. */
    static void end() {
        System.out.println(wrong == 0 ? "all answers are as due" : wrong + " answers are not as due");
        if (wrong != 0) {
            System.exit(1);
        }
    }
}
