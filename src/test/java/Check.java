import java.util.Objects;

/** Counts and prints the answers that are not as due. */
final class Check {
    interface Call {
        Object make();
    }

    private final String test;
    private int made;
    private int wrong;

    Check(String test) {
        this.test = test;
    }

    /** The answer of the call, or the simple name of the exception that it throws. */
    static Object answer(Call call) {
        try {
            return call.make();
        } catch (RuntimeException thrown) {
            return thrownName(thrown.getClass());
        }
    }

    static String thrownName(Class<? extends RuntimeException> exception) {
        return "throws." + exception.getSimpleName();
    }

    void same(String what, Object due, Call call) {
        made++;
        Object got = answer(call);
        if (!Objects.equals(due, got)) {
            wrong++;
            System.out.println(what + " answered " + got + ", due is " + due);
        }
    }

    void end() {
        System.out.println(test + ": " + made + " checks, " + wrong + " wrong");
        if (wrong != 0) {
            System.exit(1);
        }
    }
}
