/** Numbers that look mixed and are the same in every run of the tests. */
final class Numbers {
    private long state;

    Numbers(long seed) {
        state = seed;
    }

    int next() {
        state = state * 6364136223846793005L + 1442695040888963407L;
        return (int) (state >>> 32);
    }

    int below(int bound) {
        return (next() >>> 1) % bound;
    }
}
