/** Numbers that look like chance but are the same in every run. */
final class Numbers {
    private long seed;

    Numbers(long seed) {
        this.seed = seed;
    }

    int below(int bound) {
        seed = seed * 6364136223846793005L + 1442695040888963407L;
        return (int) ((seed >>> 33) % bound);
    }
}
