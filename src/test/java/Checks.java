/** What the tests share: compares answers with those that are due, and ends a test. */
final class Checks {
    interface Call {
        Object answer();
    }

    private static int made = 0;
    private static int wrong = 0;
    private static int sentences = 0;
    private static String sentence = "";

    private Checks() {
    }

    /** The test of one sentence of the document; it is told with each wrong answer. */
    static void sentence(String words, Runnable test) {
        sentence = "\"" + words + "\": ";
        sentences++;
        int before = made;
        try {
            test.run();
        } catch (RuntimeException thrown) {
            tell("broke off by " + thrown);
        }
        if (made == before) {
            tell("nothing was asked");
        }
        sentence = "";
    }

    static void due(String what, Object want, Call call) {
        Object got = outcome(call);
        made++;
        if (!got.equals(want)) {
            tell(what + " answered " + got + ", due is " + want);
        }
    }

    private static void tell(String text) {
        wrong++;
        if (wrong <= 50) {
            System.out.println(sentence + text);
        }
    }

    /** The answer, or the exact class of the exception: one of the machine's own is never due. */
    static Object outcome(Call call) {
        try {
            return call.answer();
        } catch (RuntimeException thrown) {
            return thrown.getClass();
        }
    }

    static int wrongSoFar() {
        return wrong;
    }

    static void end() {
        System.out.println((sentences > 0 ? sentences + " sentences, " : "") + made + " answers, " + wrong + " wrong");
        if (wrong != 0) {
            System.exit(1);
        }
    }
}
