/** Numbers that look thrown, the same in each run of the tests. */
final class Dice {
    private long state;

    Dice(long seed) {
        state = seed * 0x9E3779B97F4A7C15L + 0x632BE59BD9B4E019L;
    }

    /** 0 .. n less 1. */
    int below(int n) {
        state = state * 6364136223846793005L + 1442695040888963407L;
        return (int) ((state >>> 33) % n);
    }

    boolean oneIn(int n) {
        return below(n) == 0;
    }

    /** Mostly from .. to, sometimes just outside, seldom far outside. */
    int around(int from, int to) {
        if (oneIn(60)) return Integer.MIN_VALUE + below(2);
        if (oneIn(60)) return Integer.MAX_VALUE - below(2);
        if (oneIn(12)) return oneIn(2) ? from - 1 : to + 1;
        return from + below(to - from + 1);
    }
}
