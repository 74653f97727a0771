/** Numbers that look random and are the same in every run. */
final class Dice {
    private long state;

    Dice(long seed) {
        state = seed * 2862933555777941757L + 3037000493L;
    }

    /** From 0 to below - 1. */
    int roll(int below) {
        state = state * 6364136223846793005L + 1442695040888963407L;
        return (int) ((state >>> 33) % below);
    }

    boolean oneIn(int n) {
        return roll(n) == 0;
    }
}
