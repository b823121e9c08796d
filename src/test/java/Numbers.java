/** A sequence of numbers that is the same in every run. */
final class Numbers {
    private long state;

    Numbers(long seed) {
        state = seed * 2862933555777941757L + 3037000493L;
    }

    int below(int bound) {
        state = state * 6364136223846793005L + 1442695040888963407L;
        return (int) ((state >>> 33) % bound);
    }

    boolean once(int in) {
        return below(in) == 0;
    }

    int oneOf(int... choice) {
        return choice[below(choice.length)];
    }
}
