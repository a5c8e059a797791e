/** The edges that promises 12 and 13 name: accepts and allowed. */
public final class AcceptsAndAllowedEdgesTest {
    private static final Check CHECK = new Check();
    private static final int[] NO_LETTERS = {
        Integer.MIN_VALUE, Integer.MIN_VALUE + 1, -256, -33, -32, -31, -25, -8, -2, -1, 8, 9, 15, 16, 31, 32, 33, 39, 40,
        63, 64, 71, 255, 256, Integer.MAX_VALUE - 1, Integer.MAX_VALUE
    };

    public static void main(String[] args) {
        acceptsOnAnEmptyStack();
        acceptsLooksAtTheUppermostItem();
        acceptsTheEmptyInput();
        acceptsEveryInputOfASearch();
        acceptsAtTheGreatestLength();
        noSuchLetter();
        allowedOnAnEmptyStack();
        allowedLooksAtTheUppermostItem();
        allowedFirstPairs();
        everyClass();
        allowedAtTheGreatestLength();
        allowedInADeadInput();
        allowedAtTheEndOfACount();
        CHECK.finish();
    }

    /** Exactly the letters of the mask are allowed. */
    private static void allows(CountingRegex x, int mask) {
        for (int letter = 0; letter <= 7; letter++) {
            CHECK.due("allowed(" + letter + ")", x.allowed(letter), (mask >> letter & 1) == 1);
        }
        for (int letter : NO_LETTERS) {
            CHECK.due("allowed(" + letter + ")", x.allowed(letter), false);
        }
    }

    /** "false if the stack is empty". */
    private static void acceptsOnAnEmptyStack() {
        CHECK.at("accepts on an empty stack");
        CountingRegex x = new CountingRegex(2, 20);
        CHECK.due("accepts()", x.accepts(), false);
        x.op(CountingRegex.STAR);
        x.op(CountingRegex.OPT);
        x.leaf(0, 0, 1);
        x.leaf(1, 0, 21);
        CHECK.due("accepts() after refused calls", x.accepts(), false);
        x.leaf(1, 0, 1);
        CHECK.due("accepts()", x.accepts(), true);
        x.clear();
        CHECK.due("accepts() after clear", x.accepts(), false);
        x.leaf(1, 0, 1);
        x.begin(CountingRegex.SEARCH);
        x.feed(0, 1);
        x.clear();
        CHECK.due("accepts() after clear", x.accepts(), false);
    }

    /** "whether the uppermost item has the empty trace": of up to twelve items. */
    private static void acceptsLooksAtTheUppermostItem() {
        CHECK.at("accepts of the uppermost item");
        CountingRegex x = new CountingRegex(12, 224);
        for (int p = 0; p < 12; p++) {
            x.leaf(1, p % 2, 3);
            CHECK.due("accepts() on " + (p + 1) + " items", x.accepts(), p % 2 == 0);
        }
        x.op(CountingRegex.OPT);
        CHECK.due("accepts()", x.accepts(), true);
        // Item 10 has the empty trace, item 9 has not.
        x.op(CountingRegex.CAT);
        CHECK.due("accepts()", x.accepts(), true);
        x.op(CountingRegex.CAT);
        CHECK.due("accepts()", x.accepts(), false);
        x.op(CountingRegex.ALT);
        CHECK.due("accepts()", x.accepts(), true);
    }

    /** "whether the input is accepted (the empty input included)". */
    private static void acceptsTheEmptyInput() {
        for (int least = 0; least <= 2; least++) {
            for (int mode = CountingRegex.WHOLE; mode <= CountingRegex.SEARCH; mode++) {
                CHECK.at("least " + least + " in phase " + mode);
                CountingRegex x = new CountingRegex(2, 20);
                x.leaf(1, least, 2);
                x.begin(mode);
                for (int length = 0; length <= 4; length++) {
                    boolean enough = length >= least;
                    boolean due = mode == CountingRegex.WHOLE ? enough && length <= 2 : enough;
                    CHECK.due("accepts() at length " + length, x.accepts(), due);
                    x.feed(0, 1);
                }
            }
        }
    }

    /** "so if the expression has the empty trace, every input is accepted" in SEARCH. */
    private static void acceptsEveryInputOfASearch() {
        for (int kind : new int[] {CountingRegex.STAR, CountingRegex.PLUS, CountingRegex.OPT}) {
            CHECK.at("search with the empty trace by op(" + kind + ")");
            CountingRegex x = new CountingRegex(2, 20);
            x.leaf(1, kind == CountingRegex.PLUS ? 0 : 3, 3);
            x.op(kind);
            x.begin(CountingRegex.SEARCH);
            CHECK.due("accepts()", x.accepts(), true);
            for (int letter = 0; letter <= 7; letter++) {
                CHECK.due("feed(" + letter + ", 16)", x.feed(letter, 16), 16);
                CHECK.due("accepts()", x.accepts(), true);
            }
            x.begin(CountingRegex.WHOLE);
            CHECK.due("accepts()", x.accepts(), true);
            x.feed(5, 1);
            CHECK.due("accepts() in WHOLE", x.accepts(), false);
        }
    }

    /** The length plays no part in acceptance. */
    private static void acceptsAtTheGreatestLength() {
        for (int mode = CountingRegex.WHOLE; mode <= CountingRegex.SEARCH; mode++) {
            CHECK.at("accepts at the greatest length in phase " + mode);
            CountingRegex x = State.fed(mode, CountingRegex.MAX_TEXT).make();
            CHECK.due("accepts()", x.accepts(), true);
            x.feed(5, 1);
            CHECK.due("accepts() after a refused letter", x.accepts(), true);
            CountingRegex y = State.fed(mode, CountingRegex.MAX_TEXT - 1).make();
            y.feed(5, 1);
            // The expression has the empty trace.
            CHECK.due("accepts() after a last letter that ends all", y.accepts(), mode == CountingRegex.SEARCH);
        }
    }

    /** "letter below 0 or above 7: false, in every phase", also where every letter is allowed. */
    private static void noSuchLetter() {
        for (State state : State.all()) {
            CHECK.at("no such letter on " + state.name());
            CountingRegex x = state.make();
            for (int letter : NO_LETTERS) {
                CHECK.due("allowed(" + letter + ")", x.allowed(letter), false);
            }
        }
        for (int phase = CountingRegex.BUILDING; phase <= CountingRegex.SEARCH; phase++) {
            CHECK.at("every letter allowed in phase " + phase);
            CountingRegex x = new CountingRegex(2, 20);
            x.leaf(255, 0, CountingRegex.UNBOUNDED);
            x.begin(phase);
            allows(x, 255);
            x.feed(0, 1);
            x.feed(7, 1);
            allows(x, 255);
        }
    }

    /** "false if the stack is empty". */
    private static void allowedOnAnEmptyStack() {
        CHECK.at("allowed on an empty stack");
        CountingRegex x = new CountingRegex(2, 20);
        allows(x, 0);
        x.leaf(255, 1, 21);
        allows(x, 0);
        x.leaf(255, 1, 1);
        allows(x, 255);
        x.begin(CountingRegex.SEARCH);
        x.feed(0, 1);
        x.clear();
        allows(x, 0);
    }

    /** "some trace of the uppermost item": of up to twelve items, and not of those below. */
    private static void allowedLooksAtTheUppermostItem() {
        CHECK.at("allowed by the uppermost item");
        CountingRegex x = new CountingRegex(12, 224);
        for (int p = 0; p < 12; p++) {
            x.leaf(p + 1, 0, 2);
            allows(x, p + 1);
        }
        int mask = 12;
        for (int p = 10; p >= 0; p--) {
            x.op(p % 2 == 0 ? CountingRegex.CAT : CountingRegex.ALT);
            mask |= p + 1;
            allows(x, mask);
        }
    }

    /** "has a first pair": not a later one, unless all before it can be empty. */
    private static void allowedFirstPairs() {
        for (int least = 0; least <= 1; least++) {
            CHECK.at("first pairs, least " + least);
            CountingRegex x = new CountingRegex(3, 60);
            x.leaf(1, least, 2);
            x.leaf(2, 2, 3);
            x.leaf(4, 0, 1);
            x.op(CountingRegex.CAT);
            allows(x, 2);
            x.op(CountingRegex.CAT);
            allows(x, least == 0 ? 1 | 2 : 1);
            x.op(CountingRegex.PLUS);
            allows(x, least == 0 ? 1 | 2 : 1);
            x.op(CountingRegex.STAR);
            allows(x, least == 0 ? 1 | 2 : 1);
        }
    }

    /** "it contains letter x exactly when bit x of the mask is set": every class, in every phase. */
    private static void everyClass() {
        CountingRegex x = new CountingRegex(2, 20);
        for (int mask = 1; mask <= 255; mask++) {
            CHECK.at("class " + mask);
            x.clear();
            x.leaf(mask, 2, 2);
            allows(x, mask);
            for (int mode = CountingRegex.WHOLE; mode <= CountingRegex.SEARCH; mode++) {
                x.begin(mode);
                allows(x, mask);
                for (int letter = 0; letter <= 7; letter++) {
                    boolean in = (mask >> letter & 1) == 1;
                    x.begin(mode);
                    x.feed(letter, 1);
                    CHECK.due("size(0) after " + letter, x.size(0), in ? 1 : 0);
                    allows(x, in || mode == CountingRegex.SEARCH ? mask : 0);
                    CHECK.due("feed(" + letter + ", 1)", x.feed(letter, 1), in ? 1 : 0);
                }
            }
        }
    }

    /** "MAX_TEXT plays no part, so the answer can be true although feed would answer FULL." */
    private static void allowedAtTheGreatestLength() {
        for (int mode = CountingRegex.WHOLE; mode <= CountingRegex.SEARCH; mode++) {
            for (int length = CountingRegex.MAX_TEXT - 17; length <= CountingRegex.MAX_TEXT; length++) {
                CHECK.at("allowed at length " + length + " in phase " + mode);
                CountingRegex x = State.fed(mode, length).make();
                allows(x, 1 | 2);
                if (length == CountingRegex.MAX_TEXT) {
                    CHECK.due("feed(0, 1)", x.feed(0, 1), CountingRegex.FULL);
                    allows(x, 1 | 2);
                }
            }
            CHECK.at("allowed at the greatest length after a foreign letter in phase " + mode);
            CountingRegex x = State.fed(mode, CountingRegex.MAX_TEXT - 1).make();
            x.feed(5, 1);
            allows(x, mode == CountingRegex.SEARCH ? 1 : 0);
        }
    }

    /** "whether at least one pair would be held after one more letter": none in a dead WHOLE. */
    private static void allowedInADeadInput() {
        for (int mode = CountingRegex.WHOLE; mode <= CountingRegex.SEARCH; mode++) {
            CHECK.at("allowed with no pair held in phase " + mode);
            CountingRegex x = State.dead(mode).make();
            int due = mode == CountingRegex.SEARCH ? 1 : 0;
            allows(x, due);
            x.feed(6, 16);
            allows(x, due);
            x.begin(mode);
            allows(x, 1);
        }
    }

    /** A leaf at its upper bound goes no further; an endless one does; one below least is not left. */
    private static void allowedAtTheEndOfACount() {
        for (int least = 1; least <= 5; least++) {
            for (int most = least; most <= 6; most++) {
                CountingRegex bounded = counted(least, most);
                CountingRegex endless = counted(least, CountingRegex.UNBOUNDED);
                for (int length = 1; length <= 8; length++) {
                    CHECK.at("0{" + least + "," + most + "} 1 after " + length);
                    int leave = length >= least ? 2 : 0;
                    bounded.feed(0, 1);
                    allows(bounded, length > most ? 0 : (length < most ? 1 : 0) | leave);
                    endless.feed(0, 1);
                    allows(endless, 1 | leave);
                }
            }
        }
    }

    private static CountingRegex counted(int least, int most) {
        CountingRegex x = new CountingRegex(2, 20);
        x.leaf(1, least, most);
        x.leaf(2, 1, 1);
        x.op(CountingRegex.CAT);
        x.begin(CountingRegex.WHOLE);
        return x;
    }
}
