/** Promise 6: feed, and with it promises 10 and 11 over a running input. */
public final class FeedTest {
    private static final Check CHECK = new Check();

    public static void main(String[] args) {
        wrongPhaseFirst();
        badArguments();
        example();
        countsHits();
        unboundedCountsStop();
        goesOnWithNoPairHeld();
        upToTheGreatestLength(CountingRegex.WHOLE);
        upToTheGreatestLength(CountingRegex.SEARCH);
        fullAppendsNothing();
        everyTimes();
        searchBeginsAnywhere();
        feedLeavesTheExpression();
        CHECK.finish();
    }

    private static CountingRegex begun(int mask, int least, int most, int mode) {
        CountingRegex x = new CountingRegex(3, 224);
        x.leaf(mask, least, most);
        x.begin(mode);
        return x;
    }

    private static void wrongPhaseFirst() {
        CHECK.at("feed while building");
        CountingRegex x = new CountingRegex(3, 20);
        CHECK.due("feed(0, 1)", x.feed(0, 1), CountingRegex.WRONG_PHASE);
        x.leaf(1, 1, 3);
        CHECK.due("feed(0, 1)", x.feed(0, 1), CountingRegex.WRONG_PHASE);
        CHECK.due("feed(8, 1)", x.feed(8, 1), CountingRegex.WRONG_PHASE);
        CHECK.due("feed(0, 0)", x.feed(0, 0), CountingRegex.WRONG_PHASE);
        CHECK.due("length()", x.length(), 0);
        CHECK.due("size(0)", x.size(0), 0);
    }

    private static void badArguments() {
        int[][] bad = {
            {-1, 1}, {8, 1}, {32, 1}, {Integer.MIN_VALUE, 1}, {Integer.MAX_VALUE, 1},
            {0, 0}, {0, -1}, {0, 17}, {0, Integer.MIN_VALUE}, {0, Integer.MAX_VALUE}, {-1, 17}
        };
        for (int mode = CountingRegex.WHOLE; mode <= CountingRegex.SEARCH; mode++) {
            CHECK.at("bad arguments in phase " + mode);
            CountingRegex x = begun(255, 1, 40, mode);
            x.feed(0, 2);
            for (int[] one : bad) {
                CHECK.due("feed(" + one[0] + ", " + one[1] + ")", x.feed(one[0], one[1]), CountingRegex.BAD);
                CHECK.due("length()", x.length(), 2);
                CHECK.due("lastHit()", x.lastHit(), 2);
                CHECK.due("largest(0)", x.largest(0), 2);
            }
            CHECK.due("feed(7, 16)", x.feed(7, 16), 16);
            CHECK.due("length()", x.length(), 18);
        }
    }

    private static void example() {
        CHECK.at("the document's example");
        CountingRegex x = begun(1, 2, 3, CountingRegex.WHOLE);
        CHECK.due("feed(0, 4)", x.feed(0, 4), 2);
        CHECK.due("lastHit()", x.lastHit(), 3);
        CHECK.due("size(0)", x.size(0), 0);
        x.begin(CountingRegex.SEARCH);
        CHECK.due("feed(0, 4)", x.feed(0, 4), 3);
        CHECK.due("lastHit()", x.lastHit(), 4);
        for (int v = 0; v <= 4; v++) {
            CHECK.due("holds(0, " + v + ")", x.holds(0, v), v >= 1 && v <= 3);
        }
    }

    private static void countsHits() {
        CHECK.at("hits of 0{20,40}");
        CountingRegex x = begun(1, 20, 40, CountingRegex.WHOLE);
        CHECK.due("feed(0, 16)", x.feed(0, 16), 0);
        CHECK.due("lastHit()", x.lastHit(), -1);
        CHECK.due("feed(0, 16)", x.feed(0, 16), 13);
        CHECK.due("lastHit()", x.lastHit(), 32);
        CHECK.due("feed(0, 16)", x.feed(0, 16), 8);
        CHECK.due("lastHit()", x.lastHit(), 40);
        CHECK.due("length()", x.length(), 48);
        CHECK.due("accepts()", x.accepts(), false);
    }

    private static void unboundedCountsStop() {
        int[][] bounds = {{0, 1}, {1, 1}, {2, 2}, {5, 5}};
        for (int[] one : bounds) {
            CHECK.at("at least " + one[0]);
            CountingRegex x = begun(1, one[0], CountingRegex.UNBOUNDED, CountingRegex.WHOLE);
            for (int n = 1; n <= 12; n++) {
                CHECK.due("feed(0, 1)", x.feed(0, 1), n >= one[0] ? 1 : 0);
                CHECK.due("size(0)", x.size(0), 1);
                CHECK.due("largest(0)", x.largest(0), Math.min(n, one[1]));
                CHECK.due("allowed(0)", x.allowed(0), true);
            }
            CHECK.due("feed(1, 1)", x.feed(1, 1), 0);
            CHECK.due("size(0)", x.size(0), 0);
            x.begin(CountingRegex.SEARCH);
            x.feed(0, 12);
            CHECK.due("size(0)", x.size(0), one[1]);
        }
    }

    private static void goesOnWithNoPairHeld() {
        CHECK.at("no pair held");
        CountingRegex x = begun(1, 1, 2, CountingRegex.WHOLE);
        CHECK.due("feed(1, 3)", x.feed(1, 3), 0);
        CHECK.due("feed(0, 1)", x.feed(0, 1), 0);
        CHECK.due("length()", x.length(), 4);
        CHECK.due("lastHit()", x.lastHit(), -1);
        CHECK.due("size(0)", x.size(0), 0);
        x.begin(CountingRegex.SEARCH);
        CHECK.due("feed(1, 3)", x.feed(1, 3), 0);
        CHECK.due("feed(0, 3)", x.feed(0, 3), 3);
        CHECK.due("lastHit()", x.lastHit(), 6);
        CHECK.due("feed(1, 2)", x.feed(1, 2), 0);
        CHECK.due("length()", x.length(), 8);
        CHECK.due("lastHit()", x.lastHit(), 6);
    }

    private static void upToTheGreatestLength(int mode) {
        CHECK.at("greatest length in phase " + mode);
        CountingRegex x = begun(1, 3, CountingRegex.UNBOUNDED, mode);
        for (int n = 1; n <= 250; n++) {
            CHECK.due("feed(0, 16)", x.feed(0, 16), n == 1 ? 14 : 16);
            CHECK.due("length()", x.length(), 16 * n);
            CHECK.due("lastHit()", x.lastHit(), 16 * n);
        }
        for (int times = 1; times <= 16; times++) {
            CHECK.due("feed(0, " + times + ")", x.feed(0, times), CountingRegex.FULL);
        }
        CHECK.due("length()", x.length(), CountingRegex.MAX_TEXT);
        CHECK.due("lastHit()", x.lastHit(), CountingRegex.MAX_TEXT);
        CHECK.due("accepts()", x.accepts(), true);
        CHECK.due("allowed(0)", x.allowed(0), true);
        CHECK.due("allowed(1)", x.allowed(1), false);
        CHECK.due("size(0)", x.size(0), mode == CountingRegex.WHOLE ? 1 : 3);
        // BAD comes before FULL.
        CHECK.due("feed(8, 1)", x.feed(8, 1), CountingRegex.BAD);
        CHECK.due("feed(0, 17)", x.feed(0, 17), CountingRegex.BAD);
        CHECK.due("feed(0, 0)", x.feed(0, 0), CountingRegex.BAD);
        x.begin(mode);
        CHECK.due("feed(0, 16)", x.feed(0, 16), 14);
    }

    private static void fullAppendsNothing() {
        CHECK.at("FULL appends nothing");
        CountingRegex x = begun(1, 1, 2, CountingRegex.SEARCH);
        for (int n = 0; n < 249; n++) {
            x.feed(0, 16);
        }
        x.feed(0, 9);
        CHECK.due("length()", x.length(), 3993);
        CHECK.due("feed(1, 8)", x.feed(1, 8), CountingRegex.FULL);
        CHECK.due("length()", x.length(), 3993);
        CHECK.due("lastHit()", x.lastHit(), 3993);
        CHECK.due("size(0)", x.size(0), 2);
        CHECK.due("accepts()", x.accepts(), true);
        CHECK.due("feed(1, 6)", x.feed(1, 6), 0);
        CHECK.due("feed(0, 2)", x.feed(0, 2), CountingRegex.FULL);
        CHECK.due("size(0)", x.size(0), 0);
        CHECK.due("lastHit()", x.lastHit(), 3993);
        CHECK.due("feed(0, 1)", x.feed(0, 1), 1);
        CHECK.due("length()", x.length(), 4000);
        CHECK.due("lastHit()", x.lastHit(), 4000);
    }

    private static void everyTimes() {
        for (int times = 1; times <= 16; times++) {
            CHECK.at("times " + times);
            CountingRegex x = begun(128, 1, 20, CountingRegex.WHOLE);
            CHECK.due("feed(7, " + times + ")", x.feed(7, times), times);
            CHECK.due("length()", x.length(), times);
            CHECK.due("lastHit()", x.lastHit(), times);
            CHECK.due("largest(0)", x.largest(0), times);
            CHECK.due("size(0)", x.size(0), 1);
        }
    }

    private static void searchBeginsAnywhere() {
        CHECK.at("search for 0 . 1{2}");
        CountingRegex x = new CountingRegex(3, 20);
        x.leaf(1, 1, 1);
        x.leaf(255, 1, 1);
        x.op(CountingRegex.CAT);
        x.leaf(2, 2, 2);
        x.op(CountingRegex.CAT);
        x.begin(CountingRegex.SEARCH);
        int[] word = {3, 0, 0, 1, 1, 1, 0, 2, 1, 1, 1};
        int[] hits = {0, 0, 0, 0, 1, 1, 0, 0, 0, 1, 0};
        for (int i = 0; i < word.length; i++) {
            CHECK.due("feed(" + word[i] + ", 1) as letter " + (i + 1), x.feed(word[i], 1), hits[i]);
        }
        CHECK.due("lastHit()", x.lastHit(), 10);
    }

    private static void feedLeavesTheExpression() {
        CHECK.at("feed leaves the expression");
        CountingRegex x = begun(1, 1, 20, CountingRegex.SEARCH);
        x.feed(0, 16);
        CHECK.due("phase()", x.phase(), CountingRegex.SEARCH);
        CHECK.due("height()", x.height(), 1);
        CHECK.due("room()", x.room(), 204);
        CHECK.due("size(1)", x.size(1), -1);
    }
}
