/** The same pseudo-random numbers in every run of the tests. */
final class Numbers {
    private long seed;

    Numbers(long seed) {
        this.seed = seed * 0x9E3779B97F4A7C15L + 12345;
    }

    int below(int bound) {
        seed = seed * 6364136223846793005L + 1442695040888963407L;
        return (int) ((seed >>> 33) % bound);
    }

    int from(int low, int high) {
        return low + below(high - low + 1);
    }

    boolean once(int in) {
        return below(in) == 0;
    }
}
