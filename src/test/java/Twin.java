import java.util.ArrayList;
import java.util.List;

/** Makes each call on a CountingRegex and on the model and compares the answers. */
final class Twin {
    final Model model;
    private final CountingRegex regex;
    private final Check check;
    private final List<String> calls = new ArrayList<>();
    private boolean told = false;

    Twin(Check check, int maxLeaves, int cells) {
        this.check = check;
        model = new Model(maxLeaves, cells);
        regex = new CountingRegex(maxLeaves, cells);
        calls.add("new(" + maxLeaves + ", " + cells + ")");
    }

    void clear() {
        calls.add("clear()");
        regex.clear();
        model.clear();
    }

    int leaf(int mask, int least, int most) {
        String call = "leaf(" + mask + ", " + least + ", " + most + ")";
        calls.add(call);
        return same(call, regex.leaf(mask, least, most), model.leaf(mask, least, most));
    }

    int op(int kind) {
        String call = "op(" + kind + ")";
        calls.add(call);
        return same(call, regex.op(kind), model.op(kind));
    }

    int begin(int mode) {
        String call = "begin(" + mode + ")";
        calls.add(call);
        return same(call, regex.begin(mode), model.begin(mode));
    }

    int feed(int letter, int times) {
        String call = "feed(" + letter + ", " + times + ")";
        calls.add(call);
        return same(call, regex.feed(letter, times), model.feed(letter, times));
    }

    /** Asks everything that can be asked. */
    void compare() {
        compareCounts();
        for (int letter = -1; letter <= 8; letter++) {
            same("allowed(" + letter + ")", regex.allowed(letter), model.allowed(letter));
        }
        compareCounts();
    }

    /** Asks everything but allowed, for which the model reads the input once for each letter. */
    void compareCounts() {
        same("phase()", regex.phase(), model.phase());
        same("height()", regex.height(), model.height());
        same("room()", regex.room(), model.room());
        same("length()", regex.length(), model.length());
        same("lastHit()", regex.lastHit(), model.lastHit());
        same("accepts()", regex.accepts(), model.accepts());
        for (int p = -1; p <= model.leaves(); p++) {
            compareLeaf(p);
        }
    }

    private void compareLeaf(int p) {
        same("size(" + p + ")", regex.size(p), model.size(p));
        same("largest(" + p + ")", regex.largest(p), model.largest(p));
        same("smallest(" + p + ")", regex.smallest(p), model.smallest(p));
        int top = p >= 0 && p < model.leaves() ? model.top(p) : 3;
        for (int v = -1; v <= top + 2; v++) {
            same("holds(" + p + ", " + v + ")", regex.holds(p, v), model.holds(p, v));
        }
    }

    private int same(String call, int got, int want) {
        if (got != want) {
            tellCalls();
            check.due(call, got, want);
        }
        return want;
    }

    private void same(String call, boolean got, boolean want) {
        if (got != want) {
            tellCalls();
            check.due(call, got, want);
        }
    }

    private void tellCalls() {
        if (!told && check.isClean()) {
            System.out.println("after " + calls);
        }
        told = true;
    }
}
