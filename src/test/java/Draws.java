/** Numbers that look drawn by lot, but are the same ones in every run of a test. */
final class Draws {
    private long state;

    Draws(int start) {
        state = start * 2654435761L + 12345;
    }

    int below(int bound) {
        state = state * 6364136223846793005L + 1442695040888963407L;
        return (int) Math.floorMod(state >>> 33, (long) bound);
    }

    boolean oneIn(int chances) {
        return below(chances) == 0;
    }
}
