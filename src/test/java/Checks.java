/** What the tests share: compares answers with those that are due, and ends a test. */
final class Checks {
    interface Call {
        Object answer();
    }

    private static int made = 0;
    private static int wrong = 0;

    private Checks() {
    }

    static void due(String what, Object want, Call call) {
        Object got = outcome(call);
        made++;
        if (!got.equals(want)) {
            wrong++;
            if (wrong <= 50) {
                System.out.println(what + " answered " + got + ", due is " + want);
            }
        }
    }

    /** The answer, or the exact class of the exception: one of the machine's own is never due. */
    static Object outcome(Call call) {
        try {
            return call.answer();
        } catch (RuntimeException thrown) {
            return thrown.getClass();
        }
    }

    static int wrongSoFar() {
        return wrong;
    }

    static void end() {
        System.out.println(made + " answers, " + wrong + " wrong");
        if (wrong != 0) {
            System.exit(1);
        }
    }
}
