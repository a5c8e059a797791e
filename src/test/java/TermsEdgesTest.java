/** The edges that the document names under "Terms". */
public final class TermsEdgesTest {
    private static final Check CHECK = new Check();
    private static final int ENDLESS = CountingRegex.UNBOUNDED;

    public static void main(String[] args) {
        leafWithNoLetter();
        leafAtItsBounds();
        endlessLeafUpToTheGreatestLength();
        endlessCountStopsGrowing();
        cat();
        catWithEmptyItems();
        alt();
        starOfZeroTraces();
        starChoosesFreely();
        plusOfOneTrace();
        opt();
        emptyWord();
        inputSinceTheLastAcceptedBegin();
        nothingHeldForTheEmptyInput();
        beginningMayBeTheWholeTrace();
        beginningNeedNotBeCompleted();
        everyNonEmptySuffix();
        heldOnce();
        acceptedSuffixes();
        leafWithinLargerItems();
        example();
        CHECK.finish();
    }

    /** Feeds the letter again and again; hits has a 1 for every accepted length, from length 0 on. */
    private static void accepted(CountingRegex x, int mode, int letter, String hits) {
        x.begin(mode);
        for (int length = 0; length < hits.length(); length++) {
            boolean due = hits.charAt(length) == '1';
            CHECK.due("accepts() at length " + length + " in mode " + mode, x.accepts(), due);
            CHECK.due("feed is accepted", x.feed(letter, 1) >= 0, true);
        }
    }

    private static CountingRegex one(int least, int most) {
        CountingRegex x = new CountingRegex(12, 224);
        x.leaf(1, least, most);
        return x;
    }

    private static CountingRegex wrapped(int least, int most, int kind) {
        CountingRegex x = one(least, most);
        x.op(kind);
        return x;
    }

    private static CountingRegex joined(int[] left, int[] right, int kind) {
        CountingRegex x = one(left[0], left[1]);
        x.leaf(1, right[0], right[1]);
        x.op(kind);
        return x;
    }

    /** "For k = 0 this is the empty trace." */
    private static void leafWithNoLetter() {
        CHECK.at("a leaf of no letter");
        for (int most : new int[] {1, 2, 224, ENDLESS}) {
            CountingRegex x = one(0, most);
            CHECK.due("accepts() in BUILDING", x.accepts(), true);
            x.begin(CountingRegex.WHOLE);
            CHECK.due("accepts()", x.accepts(), true);
            CHECK.due("size(0)", x.size(0), 0);
            x = one(1, most);
            CHECK.due("accepts() in BUILDING", x.accepts(), false);
            x.begin(CountingRegex.WHOLE);
            CHECK.due("accepts()", x.accepts(), false);
        }
    }

    /** "for each k >= least(p) (and k <= most(p), unless most(p) is UNBOUNDED)". */
    private static void leafAtItsBounds() {
        for (int least = 0; least <= 20; least++) {
            for (int most = Math.max(1, least); most <= 22; most++) {
                CHECK.at("0{" + least + "," + most + "}");
                CountingRegex x = one(least, most);
                x.begin(CountingRegex.WHOLE);
                for (int k = 0; k <= 24; k++) {
                    CHECK.due("accepts() at length " + k, x.accepts(), k >= least && k <= most);
                    CHECK.due("largest(0) at length " + k, x.largest(0), k <= most ? k : 0);
                    CHECK.due("size(0) at length " + k, x.size(0), k >= 1 && k <= most ? 1 : 0);
                    x.feed(0, 1);
                }
            }
        }
    }

    /** "unless most(p) is UNBOUNDED": there is no greatest k. */
    private static void endlessLeafUpToTheGreatestLength() {
        for (int least : new int[] {0, 1, 2, 223, 224}) {
            CHECK.at("0{" + least + ",}");
            CountingRegex x = one(least, ENDLESS);
            x.begin(CountingRegex.WHOLE);
            for (int k = 0; k < CountingRegex.MAX_TEXT; k++) {
                CHECK.due("accepts() at length " + k, x.accepts(), k >= least);
                CHECK.due("feed(0, 1)", x.feed(0, 1), k + 1 >= least ? 1 : 0);
            }
            CHECK.due("accepts() at the end", x.accepts(), true);
            CHECK.due("largest(0) at the end", x.largest(0), Math.max(1, least));
            CHECK.due("size(0) at the end", x.size(0), 1);
        }
    }

    /** "the count of an unbounded leaf stops growing at its lower bound, or at 1 if that bound is 0". */
    private static void endlessCountStopsGrowing() {
        for (int least = 0; least <= 20; least++) {
            CHECK.at("counts of 0{" + least + ",}");
            int top = Math.max(1, least);
            CountingRegex x = one(least, ENDLESS);
            x.begin(CountingRegex.WHOLE);
            for (int k = 1; k <= top + 20; k++) {
                x.feed(0, 1);
                for (int v = 0; v <= top + 1; v++) {
                    CHECK.due("holds(0, " + v + ") at length " + k, x.holds(0, v), v == Math.min(k, top));
                }
            }
            x.begin(CountingRegex.SEARCH);
            for (int k = 1; k <= top + 20; k++) {
                x.feed(0, 1);
                CHECK.due("size(0) at length " + k, x.size(0), Math.min(k, top));
                CHECK.due("largest(0) at length " + k, x.largest(0), Math.min(k, top));
                CHECK.due("smallest(0) at length " + k, x.smallest(0), 1);
            }
        }
    }

    /** "each trace of the left item followed by each trace of the right item". */
    private static void cat() {
        CHECK.at("0{1,2} 0{3,5}");
        CountingRegex x = joined(new int[] {1, 2}, new int[] {3, 5}, CountingRegex.CAT);
        accepted(x, CountingRegex.WHOLE, 0, "0000111100");
        accepted(x, CountingRegex.SEARCH, 0, "0000111111");
        x.begin(CountingRegex.WHOLE);
        x.feed(0, 3);
        CHECK.due("largest(1)", x.largest(1), 2);
        CHECK.due("smallest(1)", x.smallest(1), 1);
        x.feed(0, 4);
        CHECK.due("size(1)", x.size(1), 1);
        CHECK.due("largest(1)", x.largest(1), 5);
    }

    /** An item with the empty trace lets its neighbour stand alone. */
    private static void catWithEmptyItems() {
        CHECK.at("concatenations with empty items");
        int[][] none = {{0, 2}, {3, 3}};
        accepted(joined(none[0], none[1], CountingRegex.CAT), CountingRegex.WHOLE, 0, "0001110");
        accepted(joined(none[1], none[0], CountingRegex.CAT), CountingRegex.WHOLE, 0, "0001110");
        accepted(joined(none[0], none[0], CountingRegex.CAT), CountingRegex.WHOLE, 0, "111110");
        CountingRegex x = joined(new int[] {0, 1}, new int[] {0, 1}, CountingRegex.CAT);
        x.begin(CountingRegex.WHOLE);
        x.feed(0, 1);
        CHECK.due("size(0)", x.size(0), 1);
        CHECK.due("size(1)", x.size(1), 1);
        x.feed(0, 1);
        CHECK.due("size(0)", x.size(0), 0);
        CHECK.due("size(1)", x.size(1), 1);
    }

    /** "the traces of either item". */
    private static void alt() {
        CHECK.at("0{1,2} | 0{4}");
        CountingRegex x = joined(new int[] {1, 2}, new int[] {4, 4}, CountingRegex.ALT);
        accepted(x, CountingRegex.WHOLE, 0, "0110100");
        x = joined(new int[] {4, 4}, new int[] {0, 2}, CountingRegex.ALT);
        CHECK.at("0{4} | 0{0,2}");
        accepted(x, CountingRegex.WHOLE, 0, "1110100");
    }

    /** "zero traces give the empty trace". */
    private static void starOfZeroTraces() {
        CHECK.at("(0{3})*");
        accepted(wrapped(3, 3, CountingRegex.STAR), CountingRegex.WHOLE, 0, "1001001001");
        accepted(wrapped(3, 3, CountingRegex.STAR), CountingRegex.WHOLE, 1, "10000");
        accepted(wrapped(3, 3, CountingRegex.STAR), CountingRegex.SEARCH, 1, "11111");
    }

    /** "every concatenation of zero or more traces of the item, each chosen freely". */
    private static void starChoosesFreely() {
        CHECK.at("(0{2} | 0{5})*");
        CountingRegex x = joined(new int[] {2, 2}, new int[] {5, 5}, CountingRegex.ALT);
        x.op(CountingRegex.STAR);
        accepted(x, CountingRegex.WHOLE, 0, "10101111111");
        CHECK.at("(0{3,4})*");
        accepted(wrapped(3, 4, CountingRegex.STAR), CountingRegex.WHOLE, 0, "1001101111111");
    }

    /** "every concatenation of one or more traces of the item". */
    private static void plusOfOneTrace() {
        CHECK.at("(0{3})+");
        accepted(wrapped(3, 3, CountingRegex.PLUS), CountingRegex.WHOLE, 0, "0001001001");
        accepted(wrapped(3, 3, CountingRegex.PLUS), CountingRegex.SEARCH, 1, "00000");
        CHECK.at("(0{0,3})+");
        accepted(wrapped(0, 3, CountingRegex.PLUS), CountingRegex.WHOLE, 0, "1111111");
    }

    /** "the empty trace and the traces of the item", but no second one. */
    private static void opt() {
        CHECK.at("(0{2,3})?");
        accepted(wrapped(2, 3, CountingRegex.OPT), CountingRegex.WHOLE, 0, "1011000");
        accepted(wrapped(2, 3, CountingRegex.OPT), CountingRegex.SEARCH, 1, "1111");
    }

    /** "The empty sequence fits the empty word", and no other word. */
    private static void emptyWord() {
        CHECK.at("the empty sequence");
        CountingRegex x = wrapped(5, 5, CountingRegex.OPT);
        x.begin(CountingRegex.WHOLE);
        CHECK.due("accepts()", x.accepts(), true);
        CHECK.due("lastHit()", x.lastHit(), 0);
        CHECK.due("feed(0, 1)", x.feed(0, 1), 0);
        CHECK.due("accepts()", x.accepts(), false);
    }

    /** "the input is the sequence of all letters fed since the last accepted begin". */
    private static void inputSinceTheLastAcceptedBegin() {
        for (int mode = CountingRegex.WHOLE; mode <= CountingRegex.SEARCH; mode++) {
            CHECK.at("letters since the last accepted begin in mode " + mode);
            CountingRegex x = one(4, 4);
            x.begin(mode);
            x.feed(0, 2);
            x.begin(0);
            x.begin(3);
            x.feed(8, 1);
            x.feed(0, 17);
            x.leaf(1, 1, 1);
            x.op(CountingRegex.STAR);
            CHECK.due("feed(0, 2)", x.feed(0, 2), 1);
            CHECK.due("length()", x.length(), 4);
            x.begin(mode);
            CHECK.due("feed(0, 3)", x.feed(0, 3), 0);
            CHECK.due("length()", x.length(), 3);
        }
    }

    /** "w is not empty"; "for some non-empty suffix u of w". */
    private static void nothingHeldForTheEmptyInput() {
        for (int mode = CountingRegex.WHOLE; mode <= CountingRegex.SEARCH; mode++) {
            for (int least = 0; least <= 1; least++) {
                CHECK.at("the empty input in mode " + mode + ", least " + least);
                CountingRegex x = one(least, ENDLESS);
                x.op(CountingRegex.STAR);
                x.begin(mode);
                CHECK.due("size(0)", x.size(0), 0);
                CHECK.due("holds(0, 1)", x.holds(0, 1), false);
                x.feed(0, 1);
                CHECK.due("holds(0, 1)", x.holds(0, 1), true);
            }
        }
    }

    /** "A beginning may be the whole trace." */
    private static void beginningMayBeTheWholeTrace() {
        for (int mode = CountingRegex.WHOLE; mode <= CountingRegex.SEARCH; mode++) {
            CHECK.at("a whole trace in mode " + mode);
            CountingRegex x = one(3, 3);
            x.begin(mode);
            CHECK.due("feed(0, 3)", x.feed(0, 3), 1);
            CHECK.due("holds(0, 3)", x.holds(0, 3), true);
            CHECK.due("allowed(0)", x.allowed(0), mode == CountingRegex.SEARCH);
        }
    }

    /** A beginning of a trace that no further letter of the input completes is a beginning all the same. */
    private static void beginningNeedNotBeCompleted() {
        CHECK.at("0{200} after one letter");
        CountingRegex x = one(200, 200);
        x.begin(CountingRegex.WHOLE);
        x.feed(0, 1);
        CHECK.due("holds(0, 1)", x.holds(0, 1), true);
        CHECK.due("accepts()", x.accepts(), false);
        x.feed(0, 16);
        CHECK.due("largest(0)", x.largest(0), 17);
    }

    /** In SEARCH w itself is a suffix, and so is its last letter alone. */
    private static void everyNonEmptySuffix() {
        for (int length = 1; length <= 16; length++) {
            CHECK.at("suffixes of " + length + " letters");
            CountingRegex x = one(1, 16);
            x.begin(CountingRegex.SEARCH);
            x.feed(0, length);
            CHECK.due("largest(0)", x.largest(0), length);
            CHECK.due("smallest(0)", x.smallest(0), 1);
            CHECK.due("size(0)", x.size(0), length);
            x.begin(CountingRegex.WHOLE);
            x.feed(0, length);
            CHECK.due("smallest(0) in WHOLE", x.smallest(0), length);
            CHECK.due("size(0) in WHOLE", x.size(0), 1);
        }
    }

    /** "each pair is held once or not at all, however many traces or suffixes lead to it". */
    private static void heldOnce() {
        CHECK.at("pairs that many traces and suffixes lead to");
        CountingRegex x = wrapped(0, 2, CountingRegex.STAR);
        x.op(CountingRegex.PLUS);
        for (int mode = CountingRegex.WHOLE; mode <= CountingRegex.SEARCH; mode++) {
            x.begin(mode);
            x.feed(0, 1);
            CHECK.due("size(0)", x.size(0), 1);
            x.feed(0, 16);
            CHECK.due("size(0)", x.size(0), 2);
            x.feed(0, 16);
            CHECK.due("size(0)", x.size(0), 2);
        }
        CountingRegex y = wrapped(0, ENDLESS, CountingRegex.STAR);
        y.begin(CountingRegex.SEARCH);
        y.feed(0, 16);
        CHECK.due("size(0)", y.size(0), 1);
    }

    /** "The empty suffix and w itself are suffixes of w". */
    private static void acceptedSuffixes() {
        CHECK.at("accepted suffixes");
        CountingRegex x = new CountingRegex(2, 20);
        x.leaf(1, 1, 1);
        x.leaf(2, 3, 3);
        x.op(CountingRegex.CAT);
        x.begin(CountingRegex.SEARCH);
        CHECK.due("feed(0, 1)", x.feed(0, 1), 0);
        CHECK.due("feed(1, 3), w itself", x.feed(1, 3), 1);
        x.feed(7, 1);
        CHECK.due("feed(0, 1)", x.feed(0, 1), 0);
        CHECK.due("feed(1, 3), a suffix", x.feed(1, 3), 1);
        x.clear();
        x.leaf(1, 0, 1);
        x.begin(CountingRegex.SEARCH);
        CHECK.due("feed(7, 16), the empty suffix", x.feed(7, 16), 16);
    }

    /** "A leaf keeps existing, under its number, when its item is taken into a larger item by an operator." */
    private static void leafWithinLargerItems() {
        for (int kind = CountingRegex.CAT; kind <= CountingRegex.OPT; kind++) {
            CHECK.at("leaves under op(" + kind + ")");
            CountingRegex x = new CountingRegex(12, 60);
            x.leaf(1, 1, 3);
            x.leaf(2, 1, 4);
            x.op(kind);
            CHECK.due("size(0)", x.size(0), 0);
            CHECK.due("size(1)", x.size(1), 0);
            CHECK.due("size(2)", x.size(2), -1);
            CHECK.due("the next number", x.leaf(4, 1, 1), 2);
        }
    }

    /** The document's example, to the letter. */
    private static void example() {
        CHECK.at("the example");
        CountingRegex x = new CountingRegex(12, 224);
        CHECK.due("leaf(1, 2, 3)", x.leaf(1, 2, 3), 0);
        CHECK.due("begin(WHOLE)", x.begin(CountingRegex.WHOLE), CountingRegex.OK);
        CHECK.due("feed(0, 4)", x.feed(0, 4), 2);
        CHECK.due("lastHit()", x.lastHit(), 3);
        CHECK.due("size(0)", x.size(0), 0);
        CHECK.due("begin(SEARCH)", x.begin(CountingRegex.SEARCH), CountingRegex.OK);
        CHECK.due("feed(0, 4)", x.feed(0, 4), 3);
        CHECK.due("lastHit()", x.lastHit(), 4);
        for (int v = 1; v <= 3; v++) {
            CHECK.due("holds(0, " + v + ")", x.holds(0, v), true);
        }
        CHECK.due("size(0)", x.size(0), 3);
    }
}
