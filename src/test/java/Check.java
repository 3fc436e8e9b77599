import java.util.function.LongSupplier;

/** What the tests have in common: compare an answer, or the exception thrown, with what is due. */
final class Check {
    private static int asked = 0;
    private static int wrong = 0;

    private Check() {
    }

    static void same(String what, long got, long due) {
        asked++;
        if (got != due) {
            tell(what + " answered " + got + ", due is " + due);
        }
    }

    static void same(String what, boolean got, boolean due) {
        same(what, got ? 1 : 0, due ? 1 : 0);
    }

    static void throwsExactly(Class<? extends Exception> due, String what, LongSupplier call) {
        asked++;
        try {
            tell(what + " answered " + call.getAsLong() + ", due is " + due.getName());
        } catch (RuntimeException thrown) {
            if (thrown.getClass() != due) {
                tell(what + " threw " + thrown + ", due is " + due.getName());
            }
        }
    }

    /** The answer as text, or the name of the exception. */
    static String outcome(LongSupplier call) {
        try {
            return Long.toString(call.getAsLong());
        } catch (RuntimeException thrown) {
            return thrown.getClass().getName();
        }
    }

    static void same(String what, String got, String due) {
        asked++;
        if (!got.equals(due)) {
            tell(what + " answered " + got + ", due is " + due);
        }
    }

    private static void tell(String text) {
        wrong++;
        if (wrong <= 20) {
            System.out.println(text);
        }
    }

    static void end() {
        System.out.println(asked + " answers asked, " + wrong + " wrong");
        if (wrong != 0) {
            System.exit(1);
        }
    }
}
