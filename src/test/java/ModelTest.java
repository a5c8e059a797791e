/** All promises: runs of calls that a fixed sequence of numbers chooses, against the model. */
public final class ModelTest {
    private static final int[] ODD = {
        Integer.MIN_VALUE, Integer.MIN_VALUE + 1, -256, -17, -3, -2, -1, 0, 1, 2, 3, 5, 6, 7, 8, 9, 12, 13,
        16, 17, 31, 32, 33, 224, 225, 255, 256, 257, 4000, 4001, Integer.MAX_VALUE - 1, Integer.MAX_VALUE
    };

    public static void main(String[] args) {
        Check check = new Check();
        for (int seed = 1; seed <= 3000 && check.isClean(); seed++) {
            check.at("wild run " + seed);
            wildRun(check, new Dice(seed));
        }
        for (int seed = 1; seed <= 3000 && check.isClean(); seed++) {
            check.at("tidy run " + seed);
            tidyRun(check, new Dice(seed), 6, 40);
        }
        for (int seed = 1; seed <= 50 && check.isClean(); seed++) {
            check.at("wide run " + seed);
            tidyRun(check, new Dice(seed), 80, 300);
        }
        for (int seed = 1; seed <= 6 && check.isClean(); seed++) {
            check.at("long run " + seed);
            longRun(check, new Dice(seed));
        }
        check.finish();
    }

    /** Calls in any order, with arguments that are often wrong. */
    private static void wildRun(Check check, Dice dice) {
        Twin twin = new Twin(check, odd(dice, dice.between(2, 12)), odd(dice, dice.between(8, 40)));
        twin.compare();
        for (int i = 0; i < 60; i++) {
            int choice = dice.roll(100);
            if (choice < 2) {
                twin.clear();
            } else if (choice < 25) {
                int least = dice.between(0, 3);
                int most = dice.oneIn(3) ? CountingRegex.UNBOUNDED : dice.between(least, 4);
                twin.leaf(odd(dice, mask(dice)), odd(dice, least), odd(dice, most));
            } else if (choice < 50) {
                twin.op(odd(dice, dice.between(1, 5)));
            } else if (choice < 58) {
                twin.begin(odd(dice, dice.between(1, 2)));
            } else {
                twin.feed(odd(dice, letter(dice, twin.model)), odd(dice, dice.between(1, 4)));
            }
            twin.compare();
        }
    }

    /** One expression after the other, each with a few inputs. */
    private static void tidyRun(Check check, Dice dice, int greatest, int letters) {
        Twin twin = new Twin(check, 12, 224);
        for (int expression = 0; expression < 2; expression++) {
            build(dice, twin, greatest);
            for (int input = 0; input < 3; input++) {
                twin.begin(dice.between(1, 2));
                twin.compare();
                int end = dice.between(1, letters);
                while (twin.model.length() < end) {
                    twin.feed(letter(dice, twin.model), dice.oneIn(4) ? dice.between(1, 16) : dice.between(1, 3));
                    twin.compare();
                }
            }
            twin.clear();
            twin.compare();
        }
    }

    /** Up to the greatest length of an input, and against it. */
    private static void longRun(Check check, Dice dice) {
        Twin twin = new Twin(check, 12, 224);
        build(dice, twin, 40);
        twin.begin(dice.between(1, 2));
        while (twin.model.length() < CountingRegex.MAX_TEXT) {
            twin.feed(letter(dice, twin.model), dice.between(1, 16));
            twin.compareCounts();
        }
        twin.compare();
        twin.feed(0, 1);
        twin.compare();
    }

    private static void build(Dice dice, Twin twin, int greatest) {
        int leaves = dice.oneIn(6) ? 12 : dice.between(1, 6);
        for (int i = 0; i < leaves; i++) {
            int least = dice.roll(greatest / (dice.oneIn(2) ? 1 : 3));
            int most = dice.oneIn(4) ? CountingRegex.UNBOUNDED : dice.between(Math.max(1, least), greatest);
            twin.leaf(mask(dice), least, most);
            while (dice.oneIn(2)) {
                twin.op(dice.oneOf(1, 1, 1, 2, 2, 3, 4, 5));
            }
            twin.compare();
        }
        while (twin.model.height() > 1) {
            twin.op(dice.oneOf(1, 1, 1, 2, 2, 3, 4, 5));
            twin.compare();
        }
    }

    private static int odd(Dice dice, int plain) {
        return dice.oneIn(12) ? dice.oneOf(ODD) : plain;
    }

    /** Mostly of few letters, so that classes overlap. */
    private static int mask(Dice dice) {
        return dice.oneIn(5) ? dice.between(1, 255) : dice.between(1, 7);
    }

    /** Mostly one that keeps a pair held, so that inputs go deep. */
    private static int letter(Dice dice, Model model) {
        int letter = dice.oneIn(5) ? dice.roll(8) : dice.roll(3);
        for (int i = 0; i < 8 && !dice.oneIn(12) && !model.allowed(letter); i++) {
            letter = (letter + 1) % 8;
        }
        return letter;
    }
}
