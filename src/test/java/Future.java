import java.util.List;
import java.util.function.ToIntFunction;

/** A fixed run of calls that shows what an object will do from now on. */
final class Future {
    private record Step(String name, ToIntFunction<CountingRegex> call) {
    }

    private static final Step CLEAR = new Step("clear()", x -> {
        x.clear();
        return 0;
    });

    static final List<Future> ALL = List.of(
            new Future("fed on", feed(0, 1), feed(1, 1), feed(0, 3), feed(2, 16), feed(0, 1), feed(1, 2)),
            new Future("begun again", begin(1), feed(0, 2), feed(1, 1), feed(0, 1), begin(2), feed(0, 3),
                    feed(1, 2), feed(0, 1), begin(1), feed(0, 4)),
            new Future("built on", leaf(3, 1, 2), op(1), op(5), leaf(1, 0, -1), op(2), op(1), op(1), op(3),
                    begin(2), feed(0, 2), feed(1, 2), feed(0, 16)),
            new Future("given two choices", leaf(3, 1, 2), leaf(1, 1, 1), op(2), begin(1), feed(0, 3)),
            new Future("joined to one", op(1), op(1), op(2), op(1), op(1), op(1), op(1), op(1), op(1), op(1),
                    op(1), begin(1), feed(0, 2), feed(1, 2), feed(2, 2), feed(0, 1), feed(1, 1)),
            new Future("filled up", leaf(1, 2, 2), leaf(3, 1, 1), op(4), leaf(7, 0, 1), op(3), leaf(1, 1, 1),
                    leaf(1, 1, 1), leaf(1, 1, 1), leaf(1, 1, 1), leaf(1, 1, 1), leaf(1, 1, 1), leaf(1, 1, 1),
                    leaf(1, 1, 1), leaf(1, 1, 1), leaf(1, 1, 1), op(5), op(5), op(5), op(5), op(5), op(5)),
            new Future("cleared", CLEAR, leaf(1, 1, 3), leaf(2, 0, 2), op(1), op(4), begin(1), feed(0, 2),
                    feed(1, 1), feed(0, 1), CLEAR, leaf(1, 0, 1)));

    private final String name;
    private final Step[] steps;

    private Future(String name, Step... steps) {
        this.name = name;
        this.steps = steps;
    }

    private static Step leaf(int mask, int least, int most) {
        return new Step("leaf(" + mask + ", " + least + ", " + most + ")", x -> x.leaf(mask, least, most));
    }

    private static Step op(int kind) {
        return new Step("op(" + kind + ")", x -> x.op(kind));
    }

    private static Step begin(int mode) {
        return new Step("begin(" + mode + ")", x -> x.begin(mode));
    }

    private static Step feed(int letter, int times) {
        return new Step("feed(" + letter + ", " + times + ")", x -> x.feed(letter, times));
    }

    /** The two objects answer alike now and after every step. */
    void same(Check check, String after, CountingRegex got, CountingRegex want) {
        Snapshot.same(check, "after " + after, got, want);
        for (int i = 0; i < steps.length && check.isClean(); i++) {
            String when = place(after, i);
            check.due("the last call " + when, steps[i].call().applyAsInt(got), steps[i].call().applyAsInt(want));
            Snapshot.same(check, when, got, want);
        }
    }

    /** The same, but the second object is asked nothing before the end. */
    void sameUnasked(Check check, String after, CountingRegex asked, CountingRegex unasked) {
        new Snapshot(asked);
        for (int i = 0; i < steps.length && check.isClean(); i++) {
            String when = place(after, i);
            check.due("the last call " + when, steps[i].call().applyAsInt(asked),
                    steps[i].call().applyAsInt(unasked));
            new Snapshot(asked);
        }
        Snapshot.same(check, "after " + after + ", then " + name, asked, unasked);
    }

    private String place(String after, int step) {
        return "after " + after + ", then " + name + " as far as " + steps[step].name() + " (step " + (step + 1) + ")";
    }
}
