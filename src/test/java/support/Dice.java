/** Numbers that look drawn, the same ones for the same seed. */
final class Dice {
    private long state;

    Dice(long seed) {
        state = seed * 0x9E3779B97F4A7C15L + 12345;
    }

    int below(int bound) {
        state = state * 6364136223846793005L + 1442695040888963407L;
        return (int) Math.floorMod(state >>> 33, (long) bound);
    }

    int of(int least, int most) {
        return least + below(most - least + 1);
    }

    /** Any int, often a small one or one at the edge of ints. */
    int any() {
        switch (below(6)) {
            case 0: return of(-3, 12);
            case 1: return of(-3, 70);
            case 2: return of(-3, 260);
            case 3: return of(-2, 70000);
            case 4: return below(2) == 0 ? Integer.MIN_VALUE + below(3) : Integer.MAX_VALUE - below(3);
            default: return below(Integer.MAX_VALUE) * (below(2) == 0 ? 1 : -1);
        }
    }
}
