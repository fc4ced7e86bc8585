/** Calls that make an object and bring it into a state; each look at the state takes an object of its own. */
interface Scene {
    /** A call, or a few of them, on an object. */
    interface Deed {
        Object on(LintelBrothers x);
    }

    LintelBrothers make();

    /** The same calls with some more; an exception of theirs is no matter. */
    default Scene then(Deed deed) {
        return () -> {
            LintelBrothers x = make();
            Check.answer(() -> deed.on(x));
            return x;
        };
    }
}
