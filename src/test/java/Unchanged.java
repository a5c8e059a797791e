import java.util.function.ToIntFunction;

/** "A refused call answers a negative number and changes nothing": neither now nor for what comes later. */
final class Unchanged {
    private Unchanged() {
    }

    /**
     * The call answers want on an object in the given state, each time that it is made, and
     * the object is then like one that was never called so.
     */
    static void refused(Check check, State state, String call, ToIntFunction<CountingRegex> made, int want) {
        String name = call + " on " + state.name();
        check.due(name + ": a refusal is negative", want < 0, true);
        for (Future future : Future.ALL) {
            CountingRegex touched = state.make();
            // An odd number of times, since a second call might undo what the first one did.
            for (int time = 1; time <= 3; time++) {
                check.due(name + ", time " + time, made.applyAsInt(touched), want);
            }
            future.same(check, name, touched, state.make());
        }
    }

    /** "It changes nothing": an object that is asked all along goes on like one that is never asked. */
    static void asked(Check check, State state) {
        for (Future future : Future.ALL) {
            future.sameUnasked(check, "questions on " + state.name(), state.make(), state.make());
        }
    }
}
