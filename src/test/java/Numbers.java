/** Numbers that look like chance and are always the same for the same start. */
final class Numbers {
    private long seed;

    Numbers(long start) {
        seed = start * 7919L;
    }

    int below(int bound) {
        seed = seed * 6364136223846793005L + 1442695040888963407L;
        return (int) ((seed >>> 33) % bound);
    }

    /** A number from 1 to the highest. */
    int upTo(int highest) {
        return 1 + below(highest);
    }
}
