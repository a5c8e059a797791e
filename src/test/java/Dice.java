/** A fixed sequence of numbers from a seed, so that every run of the tests is the same. */
final class Dice {
    private long state;

    Dice(long seed) {
        state = seed * 0x9E3779B97F4A7C15L + 1;
    }

    /** A number from 0 to sides - 1. */
    int roll(int sides) {
        state = state * 6364136223846793005L + 1442695040888963407L;
        return (int) ((state >>> 33) % sides);
    }

    /** A number from least to most. */
    int between(int least, int most) {
        return least + roll(most - least + 1);
    }

    boolean oneIn(int sides) {
        return roll(sides) == 0;
    }

    int oneOf(int... values) {
        return values[roll(values.length)];
    }
}
