import java.util.ArrayDeque;
import java.util.ArrayList;
import java.util.Deque;
import java.util.HashSet;
import java.util.List;
import java.util.Set;

/**
 * "Terms" taken at their word: the set of traces of every item is written out, each trace cut
 * after more pairs than the inputs have letters, and what is held and accepted is looked up in it.
 */
public final class TracesTest {
    private static final Check CHECK = new Check();
    private static final int LONGEST_INPUT = 4;
    private static final int CUT = LONGEST_INPUT + 1;
    private static final int[][] BOUNDS = {{0, 1}, {1, 1}, {0, 2}, {2, 2}, {2, 3}, {0, -1}, {1, -1}, {2, -1}};
    private static final int[] WRAPS = {0, CountingRegex.STAR, CountingRegex.PLUS, CountingRegex.OPT};

    private record Pair(int leaf, int count) {
    }

    /** The object and, beside it, the traces of the items on its stack and the classes of its leaves. */
    private final CountingRegex regex = new CountingRegex(12, 224);
    private final Deque<Set<List<Pair>>> stack = new ArrayDeque<>();
    private final List<Integer> classes = new ArrayList<>();
    private String made = "";

    public static void main(String[] args) {
        twoLeavesInEveryWay();
        for (int seed = 1; seed <= 200 && CHECK.isClean(); seed++) {
            severalLeaves(new Dice(seed));
        }
        CHECK.finish();
    }

    private static void twoLeavesInEveryWay() {
        for (int[] left : BOUNDS) {
            for (int[] right : BOUNDS) {
                for (int ways = 0; ways < 4 * 4 * 4 * 2 && CHECK.isClean(); ways++) {
                    TracesTest test = new TracesTest();
                    test.leaf(1, left);
                    test.wrap(WRAPS[ways % 4]);
                    test.leaf(3, right);
                    test.wrap(WRAPS[ways / 4 % 4]);
                    test.join(ways / 64 == 0 ? CountingRegex.CAT : CountingRegex.ALT);
                    test.wrap(WRAPS[ways / 16 % 4]);
                    test.check(2);
                }
            }
        }
    }

    private static void severalLeaves(Dice dice) {
        TracesTest test = new TracesTest();
        int leaves = dice.between(3, 4);
        for (int p = 0; p < leaves; p++) {
            test.leaf(dice.between(1, 7), BOUNDS[dice.roll(BOUNDS.length)]);
            test.wrap(WRAPS[dice.roll(4)]);
            while (test.stack.size() > 1 && dice.oneIn(2)) {
                test.join(dice.between(CountingRegex.CAT, CountingRegex.ALT));
                test.wrap(WRAPS[dice.roll(4)]);
            }
        }
        while (test.stack.size() > 1) {
            test.join(dice.between(CountingRegex.CAT, CountingRegex.ALT));
        }
        test.check(3);
    }

    private void leaf(int mask, int[] bounds) {
        made += " leaf(" + mask + ", " + bounds[0] + ", " + bounds[1] + ")";
        CHECK.at(made);
        int p = classes.size();
        CHECK.due("leaf", regex.leaf(mask, bounds[0], bounds[1]), p);
        classes.add(mask);
        boolean endless = bounds[1] == CountingRegex.UNBOUNDED;
        int top = endless ? Math.max(bounds[0], 1) : bounds[1];
        Set<List<Pair>> traces = new HashSet<>();
        int longest = endless ? CUT + bounds[0] : bounds[1];
        for (int k = bounds[0]; k <= longest; k++) {
            List<Pair> trace = new ArrayList<>();
            for (int i = 1; i <= k && i <= CUT; i++) {
                trace.add(new Pair(p, Math.min(i, top)));
            }
            traces.add(trace);
        }
        stack.push(traces);
    }

    private void join(int kind) {
        made += " op(" + kind + ")";
        CHECK.at(made);
        Set<List<Pair>> right = stack.pop();
        Set<List<Pair>> left = stack.pop();
        stack.push(kind == CountingRegex.CAT ? cat(left, right) : union(left, right));
        CHECK.due("op", regex.op(kind), stack.size());
    }

    /** Kind 0 leaves the item as it is. */
    private void wrap(int kind) {
        if (kind == 0) {
            return;
        }
        made += " op(" + kind + ")";
        CHECK.at(made);
        Set<List<Pair>> item = stack.pop();
        Set<List<Pair>> none = Set.of(List.of());
        if (kind == CountingRegex.OPT) {
            stack.push(union(none, item));
        } else {
            stack.push(repeated(kind == CountingRegex.STAR ? none : item, item));
        }
        CHECK.due("op", regex.op(kind), stack.size());
    }

    private static Set<List<Pair>> union(Set<List<Pair>> one, Set<List<Pair>> other) {
        Set<List<Pair>> both = new HashSet<>(one);
        both.addAll(other);
        return both;
    }

    private static Set<List<Pair>> cat(Set<List<Pair>> left, Set<List<Pair>> right) {
        Set<List<Pair>> all = new HashSet<>();
        for (List<Pair> first : left) {
            for (List<Pair> second : right) {
                List<Pair> trace = new ArrayList<>(first);
                trace.addAll(second);
                all.add(trace.size() > CUT ? new ArrayList<>(trace.subList(0, CUT)) : trace);
            }
        }
        return all;
    }

    /** The given traces followed by any number of traces of the item. */
    private static Set<List<Pair>> repeated(Set<List<Pair>> given, Set<List<Pair>> item) {
        Set<List<Pair>> all = new HashSet<>(given);
        Set<List<Pair>> fresh = given;
        while (!fresh.isEmpty()) {
            fresh = cat(fresh, item);
            fresh.removeAll(all);
            all.addAll(fresh);
        }
        return all;
    }

    /** All inputs of the letters below the given one. */
    private void check(int letters) {
        checkBuilding();
        for (int mode = CountingRegex.WHOLE; mode <= CountingRegex.SEARCH; mode++) {
            int words = letters * letters * letters * letters;
            for (int word = 0; word < words; word++) {
                checkInput(mode, letters, word);
            }
        }
    }

    private void checkBuilding() {
        CHECK.due("accepts() in BUILDING", regex.accepts(), stack.peek().contains(List.of()));
        for (int letter = 0; letter <= 7; letter++) {
            boolean due = false;
            for (List<Pair> trace : stack.peek()) {
                due = due || (!trace.isEmpty() && fits(trace.get(0), letter));
            }
            CHECK.due("allowed(" + letter + ") in BUILDING", regex.allowed(letter), due);
        }
    }

    /** The digits of the word, the lowest first, are its letters. */
    private void checkInput(int mode, int letters, int word) {
        List<Integer> input = new ArrayList<>();
        regex.begin(mode);
        int hit = accepted(mode, input) ? 0 : -1;
        CHECK.due("lastHit() at length 0", regex.lastHit(), hit);
        int rest = word;
        for (int length = 1; length <= LONGEST_INPUT && CHECK.isClean(); length++) {
            int letter = rest % letters;
            rest /= letters;
            input.add(letter);
            CHECK.at(made + " begin(" + mode + ") fed " + input);
            boolean due = accepted(mode, input);
            hit = due ? length : hit;
            // With no digit left this is the first word that begins so.
            Set<Pair> held = rest == 0 ? held(mode, input) : null;
            if (held != null) {
                CHECK.due("allowed(" + letter + ")", regex.allowed(letter), !held.isEmpty());
            }
            CHECK.due("feed(" + letter + ", 1)", regex.feed(letter, 1), due ? 1 : 0);
            CHECK.due("accepts()", regex.accepts(), due);
            CHECK.due("lastHit()", regex.lastHit(), hit);
            if (held != null) {
                checkHeld(held);
            }
        }
    }

    private void checkHeld(Set<Pair> held) {
        for (int p = 0; p < classes.size(); p++) {
            int size = 0;
            int largest = 0;
            int smallest = 0;
            for (int v = 0; v <= 4; v++) {
                boolean due = held.contains(new Pair(p, v));
                CHECK.due("holds(" + p + ", " + v + ")", regex.holds(p, v), due);
                if (due) {
                    size++;
                    largest = v;
                    smallest = smallest == 0 ? v : smallest;
                }
            }
            CHECK.due("size(" + p + ")", regex.size(p), size);
            CHECK.due("largest(" + p + ")", regex.largest(p), largest);
            CHECK.due("smallest(" + p + ")", regex.smallest(p), smallest);
        }
    }

    private boolean fits(Pair pair, int letter) {
        return (classes.get(pair.leaf()) & 1 << letter) != 0;
    }

    /** Whether the first pairs of the trace, as many as the word has letters, fit the word. */
    private boolean beginningFits(List<Pair> trace, List<Integer> word) {
        if (trace.size() < word.size()) {
            return false;
        }
        for (int i = 0; i < word.size(); i++) {
            if (!fits(trace.get(i), word.get(i))) {
                return false;
            }
        }
        return true;
    }

    /** The suffixes at which a trace may begin: all in SEARCH, and only the whole input in WHOLE. */
    private static List<List<Integer>> suffixes(int mode, List<Integer> input) {
        List<List<Integer>> all = new ArrayList<>();
        int last = mode == CountingRegex.WHOLE ? 0 : input.size();
        for (int from = 0; from <= last; from++) {
            all.add(input.subList(from, input.size()));
        }
        return all;
    }

    private boolean accepted(int mode, List<Integer> input) {
        for (List<Integer> word : suffixes(mode, input)) {
            for (List<Pair> trace : stack.peek()) {
                if (trace.size() == word.size() && beginningFits(trace, word)) {
                    return true;
                }
            }
        }
        return false;
    }

    private Set<Pair> held(int mode, List<Integer> input) {
        Set<Pair> held = new HashSet<>();
        for (List<Integer> word : suffixes(mode, input)) {
            for (List<Pair> trace : stack.peek()) {
                if (!word.isEmpty() && beginningFits(trace, word)) {
                    held.add(trace.get(word.size() - 1));
                }
            }
        }
        return held;
    }
}
