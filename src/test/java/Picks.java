/** A row of numbers that only look picked by chance: each run of a test makes the same calls. */
final class Picks {
    private long seed;

    Picks(long seed) {
        this.seed = seed;
    }

    /** A number from 0 to bound - 1. */
    int below(int bound) {
        seed = seed * 6364136223846793005L + 1442695040888963407L;
        return (int) ((seed >>> 33) % bound);
    }
}
