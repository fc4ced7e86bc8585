import java.util.Objects;

/** Counts and prints the answers that are not as due. */
final class Check {
    interface Call {
        Object make();
    }

    private final String test;
    private int made;
    private int wrong;

    Check(String test) {
        this.test = test;
    }

    /** The answer of the call, or the simple name of the exception that it throws. */
    static Object answer(Call call) {
        try {
            return call.make();
        } catch (RuntimeException thrown) {
            return "throws." + thrown.getClass().getSimpleName();
        }
    }

    void same(String what, Object due, Call call) {
        made++;
        Object got = answer(call);
        if (!Objects.equals(due, got)) {
            wrong++;
            System.out.println(what + " answered " + got + ", due is " + due);
        }
    }

    /** The call throws, and all that can be seen of the object stays as it was. */
    void refused(String what, Class<? extends RuntimeException> due, LintelBrothers object, Call call) {
        String before = Look.at(object);
        same(what, "throws." + due.getSimpleName(), call);
        String after = Look.at(object);
        same(what + ": what is seen afterwards", before, () -> after);
    }

    /** The call is rejected: nothing but the latest rejection becomes different. */
    void rejected(String what, int reason, int detail, LintelBrothers object, Call call) {
        String before = Look.atData(object);
        same(what, "throws.UnsupportedOperationException", call);
        String after = Look.atData(object);
        same(what + ": what is seen afterwards", before, () -> after);
        same(what + ": rejectionReason", reason, object::rejectionReason);
        same(what + ": rejectionDetail", detail, object::rejectionDetail);
    }

    void end() {
        System.out.println(test + ": " + made + " checks, " + wrong + " wrong");
        if (wrong != 0) {
            System.exit(1);
        }
    }
}
