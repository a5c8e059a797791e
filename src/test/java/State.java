import java.util.ArrayList;
import java.util.List;
import java.util.function.Consumer;

/** Objects in a state that stands at an edge, each made anew with the same limits by the same calls. */
record State(String name, int maxLeaves, int cells, Consumer<CountingRegex> calls) {
    CountingRegex makeNew() {
        return new CountingRegex(maxLeaves, cells);
    }

    CountingRegex make() {
        CountingRegex x = makeNew();
        calls.accept(x);
        return x;
    }

    /** The number of leaves, found by asking; no object has more than twelve. */
    static int leavesOf(CountingRegex x) {
        int leaves = 0;
        while (leaves < 12 && x.size(leaves) >= 0) {
            leaves++;
        }
        return leaves;
    }

    /** Leaf i is once or twice the letter i mod 3. */
    static State items(int count) {
        return new State(count + " items", 12, 60, x -> {
            for (int i = 0; i < count; i++) {
                x.leaf(1 << i % 3, 1, 2);
            }
        });
    }

    /** (0 [01]{1,2})* and ([01]{0,2} 0)?, so that each item has the empty trace and leaves that follow others. */
    static State compoundItems() {
        return new State("two items of two leaves", 12, 60, x -> {
            x.leaf(1, 1, 1);
            x.leaf(3, 1, 2);
            x.op(CountingRegex.CAT);
            x.op(CountingRegex.STAR);
            x.leaf(3, 0, 2);
            x.leaf(1, 1, 1);
            x.op(CountingRegex.CAT);
            x.op(CountingRegex.OPT);
        });
    }

    /** One item that has the empty trace. */
    static State emptyItem() {
        return new State("one item with the empty trace", 12, 60, x -> x.leaf(3, 0, 2));
    }

    /** Two items, and no further leaf may be made although there is room. */
    static State noLeafLeft() {
        return new State("two items and no leaf left", 2, 20, x -> {
            x.leaf(1, 2, 3);
            x.leaf(3, 0, CountingRegex.UNBOUNDED);
        });
    }

    /** Two items, and no room although further leaves may be made. */
    static State noRoomLeft() {
        return new State("two items and no room left", 4, 8, x -> {
            x.leaf(1, 2, 3);
            x.leaf(3, 5, CountingRegex.UNBOUNDED);
        });
    }

    /** One item, and neither room nor a further leaf. */
    static State nothingLeft() {
        return new State("one item and nothing left", 2, 8, State::useUpEverything);
    }

    /** A running input on an object with neither room nor leaves left. */
    static State nothingLeft(int mode) {
        return new State("nothing left in phase " + mode, 2, 8, x -> {
            useUpEverything(x);
            x.begin(mode);
            x.feed(0, 5);
        });
    }

    private static void useUpEverything(CountingRegex x) {
        x.leaf(1, 2, 3);
        x.leaf(3, 1, 4);
        x.op(CountingRegex.CAT);
        x.op(CountingRegex.PLUS);
    }

    /** An input of the given length whose last letter is 0, if it has one. */
    static State fed(int mode, int length) {
        return new State("an input of length " + length + " in phase " + mode, 4, 20, x -> {
            beginExpression(x, mode);
            int fed = 0;
            while (length - fed > 16) {
                x.feed(fed % 3 == 0 ? 0 : 1, 16);
                fed += 16;
            }
            while (fed < length) {
                x.feed(0, 1);
                fed++;
            }
        });
    }

    /** In WHOLE no pair can be held any more; in SEARCH none is held now. */
    static State dead(int mode) {
        return new State("no pair held in phase " + mode, 4, 20, x -> {
            beginExpression(x, mode);
            x.feed(0, 3);
            x.feed(5, 1);
        });
    }

    /** (0{2,3} [01]{2,})*, which leaves room and leaves. */
    private static void beginExpression(CountingRegex x, int mode) {
        x.leaf(1, 2, 3);
        x.leaf(3, 2, CountingRegex.UNBOUNDED);
        x.op(CountingRegex.CAT);
        x.op(CountingRegex.STAR);
        x.begin(mode);
    }

    /** A state of each sort in phase BUILDING. */
    static List<State> building() {
        return List.of(items(0), items(1), items(2), items(3), items(12), emptyItem(), compoundItems(),
                noLeafLeft(), noRoomLeft(), nothingLeft());
    }

    /** A state of each sort in the phases WHOLE and SEARCH. */
    static List<State> matching() {
        List<State> states = new ArrayList<>();
        for (int mode = CountingRegex.WHOLE; mode <= CountingRegex.SEARCH; mode++) {
            states.add(fed(mode, 0));
            states.add(fed(mode, 1));
            states.add(fed(mode, 7));
            states.add(fed(mode, CountingRegex.MAX_TEXT - 1));
            states.add(fed(mode, CountingRegex.MAX_TEXT));
            states.add(dead(mode));
            states.add(nothingLeft(mode));
        }
        return states;
    }

    static List<State> all() {
        List<State> states = new ArrayList<>(building());
        states.addAll(matching());
        return states;
    }
}
