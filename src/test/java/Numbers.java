/** The same row of scattered numbers on every run. */
final class Numbers {
    private long state;

    Numbers(long first) {
        state = first;
    }

    /** A number from 0 to bound - 1. */
    int below(int bound) {
        state = state * 6364136223846793005L + 1442695040888963407L;
        return (int) ((state >>> 33) % bound);
    }

    int between(int first, int last) {
        return first + below(last - first + 1);
    }
}
