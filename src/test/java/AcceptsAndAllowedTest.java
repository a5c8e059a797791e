/** Promises 12 and 13: accepts and allowed. */
public final class AcceptsAndAllowedTest {
    private static final Check CHECK = new Check();

    public static void main(String[] args) {
        uppermostItem();
        firstPairsWhileBuilding();
        acceptsWhileMatching();
        allowedWhileMatching();
        allowedAtTheEndOfALeaf();
        allowedInASearch();
        askingChangesNothing();
        CHECK.finish();
    }

    private static void allows(CountingRegex x, int mask) {
        for (int letter = 0; letter < 8; letter++) {
            CHECK.due("allowed(" + letter + ")", x.allowed(letter), (mask >> letter & 1) == 1);
        }
        for (int letter : new int[] {Integer.MIN_VALUE, -32, -1, 8, 31, 32, 33, 64, Integer.MAX_VALUE}) {
            CHECK.due("allowed(" + letter + ")", x.allowed(letter), false);
        }
    }

    private static void uppermostItem() {
        CHECK.at("the uppermost item");
        CountingRegex x = new CountingRegex(4, 20);
        CHECK.due("accepts()", x.accepts(), false);
        allows(x, 0);
        x.leaf(0b00000101, 0, 1);
        CHECK.due("accepts()", x.accepts(), true);
        allows(x, 0b00000101);
        x.leaf(0b10000010, 1, 1);
        CHECK.due("accepts()", x.accepts(), false);
        allows(x, 0b10000010);
        x.leaf(0b11111111, 0, CountingRegex.UNBOUNDED);
        CHECK.due("accepts()", x.accepts(), true);
        allows(x, 0b11111111);
    }

    private static void firstPairsWhileBuilding() {
        CHECK.at("first pairs while building");
        CountingRegex x = new CountingRegex(12, 40);
        x.leaf(1, 2, 3);
        x.leaf(2, 1, 1);
        x.op(CountingRegex.CAT);
        allows(x, 1);
        x.op(CountingRegex.OPT);
        x.leaf(4, 1, 1);
        x.op(CountingRegex.CAT);
        CHECK.due("accepts()", x.accepts(), false);
        allows(x, 1 | 4);
        x.op(CountingRegex.PLUS);
        CHECK.due("accepts()", x.accepts(), false);
        allows(x, 1 | 4);
        x.leaf(8, 0, 2);
        x.op(CountingRegex.ALT);
        CHECK.due("accepts()", x.accepts(), true);
        allows(x, 1 | 4 | 8);
        x.leaf(16, 1, 1);
        x.op(CountingRegex.STAR);
        CHECK.due("accepts()", x.accepts(), true);
        allows(x, 16);
        x.op(CountingRegex.CAT);
        CHECK.due("accepts()", x.accepts(), true);
        allows(x, 1 | 4 | 8 | 16);
    }

    private static void acceptsWhileMatching() {
        CHECK.at("accepts while matching");
        CountingRegex x = new CountingRegex(2, 20);
        x.leaf(1, 0, 2);
        x.leaf(2, 2, 2);
        x.op(CountingRegex.CAT);
        x.begin(CountingRegex.WHOLE);
        accepted(x, new int[] {0, 0, 1, 1, 1}, "000010");
        x.begin(CountingRegex.WHOLE);
        accepted(x, new int[] {1, 1, 0}, "0010");
        x.begin(CountingRegex.SEARCH);
        accepted(x, new int[] {5, 1, 1, 1, 0, 1, 1, 7}, "000110010");
        x.clear();
        x.leaf(1, 0, 2);
        x.begin(CountingRegex.WHOLE);
        accepted(x, new int[] {0, 0, 0, 0}, "11100");
        x.begin(CountingRegex.WHOLE);
        accepted(x, new int[] {1, 0}, "100");
        x.begin(CountingRegex.SEARCH);
        accepted(x, new int[] {0, 0, 0, 5, 0}, "111111");
    }

    /** The first sign of want is for the empty input. */
    private static void accepted(CountingRegex x, int[] word, String want) {
        CHECK.due("accepts() at length 0", x.accepts(), want.charAt(0) == '1');
        for (int i = 0; i < word.length; i++) {
            boolean due = want.charAt(i + 1) == '1';
            CHECK.due("feed(" + word[i] + ", 1)", x.feed(word[i], 1), due ? 1 : 0);
            CHECK.due("accepts() at length " + (i + 1), x.accepts(), due);
        }
    }

    private static void allowedWhileMatching() {
        CHECK.at("allowed in 0{1,2} (1{2}|2)* 3");
        CountingRegex x = new CountingRegex(12, 40);
        x.leaf(1, 1, 2);
        x.leaf(2, 2, 2);
        x.leaf(4, 1, 1);
        x.op(CountingRegex.ALT);
        x.op(CountingRegex.STAR);
        x.op(CountingRegex.CAT);
        x.leaf(8, 1, 1);
        x.op(CountingRegex.CAT);
        x.begin(CountingRegex.WHOLE);
        int[] word = {0, 0, 1, 1, 2, 1, 1, 3, 0};
        int[] allowed = {1, 1 | 2 | 4 | 8, 2 | 4 | 8, 2, 2 | 4 | 8, 2 | 4 | 8, 2, 2 | 4 | 8, 0, 0};
        for (int i = 0; i <= word.length; i++) {
            CHECK.at("allowed in 0{1,2} (1{2}|2)* 3 at length " + i);
            allows(x, allowed[i]);
            if (i < word.length) {
                x.feed(word[i], 1);
            }
        }
    }

    private static void allowedAtTheEndOfALeaf() {
        CHECK.at("allowed at the end of a leaf");
        CountingRegex x = new CountingRegex(2, 20);
        x.leaf(3, 2, 3);
        x.begin(CountingRegex.WHOLE);
        x.feed(0, 2);
        allows(x, 3);
        x.feed(1, 1);
        allows(x, 0);
        x.clear();
        x.leaf(3, 2, CountingRegex.UNBOUNDED);
        x.begin(CountingRegex.WHOLE);
        x.feed(0, 2);
        allows(x, 3);
        x.feed(1, 9);
        allows(x, 3);
        x.feed(2, 1);
        allows(x, 0);
    }

    private static void allowedInASearch() {
        CHECK.at("allowed in a search");
        CountingRegex x = new CountingRegex(2, 20);
        x.leaf(1, 2, 2);
        x.leaf(2, 1, 1);
        x.op(CountingRegex.CAT);
        x.begin(CountingRegex.SEARCH);
        allows(x, 1);
        x.feed(7, 5);
        allows(x, 1);
        x.feed(0, 1);
        allows(x, 1);
        x.feed(0, 1);
        allows(x, 1 | 2);
        x.feed(1, 1);
        allows(x, 1);
    }

    private static void askingChangesNothing() {
        CHECK.at("asking changes nothing");
        CountingRegex x = new CountingRegex(2, 20);
        x.leaf(1, 1, 5);
        x.begin(CountingRegex.SEARCH);
        x.feed(0, 3);
        for (int round = 0; round < 5; round++) {
            allows(x, 1);
            CHECK.due("accepts()", x.accepts(), true);
        }
        CHECK.due("length()", x.length(), 3);
        CHECK.due("lastHit()", x.lastHit(), 3);
        CHECK.due("size(0)", x.size(0), 3);
        CHECK.due("largest(0)", x.largest(0), 3);
        CHECK.due("smallest(0)", x.smallest(0), 1);
    }
}
