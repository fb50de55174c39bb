/** Calls that are to throw: the very exception, again each time, and nothing is changed by it. */
final class Refused {
    static final Class<IndexOutOfBoundsException> OUT = IndexOutOfBoundsException.class;
    static final Class<IllegalArgumentException> ARG = IllegalArgumentException.class;
    static final Class<java.util.NoSuchElementException> NOT = java.util.NoSuchElementException.class;
    static final Class<IllegalStateException> STATE = IllegalStateException.class;

    private static final int TURNS = 3;

    interface Make {
        Used make();
    }

    interface Act {
        Object on(Used x);
    }

    private Refused() {
    }

    static void by(Class<? extends RuntimeException> want, String what, Make state, Act act) {
        Checks.due(what + " changes nothing", Snapshot.of(state.make()), Snapshot.of(after(want, what, state, act)));
        Checks.due(what + " changes nothing that shows later", Snapshot.ofLater(state.make()),
                Snapshot.ofLater(after(want, what, state, act)));
    }

    /** More than once, so that a clock that had gone on would have gone on far enough to be seen. */
    private static Used after(Class<? extends RuntimeException> want, String what, Make state, Act act) {
        Used x = state.make();
        for (int turn = 0; turn < TURNS; turn++) {
            Checks.fails(what, want, () -> act.on(x));
        }
        return x;
    }
}
