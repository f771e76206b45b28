/** Keys chosen by their home; it is reckoned apart from StepMap, in longs, none of them below 0. */
final class Keys {
    private static final int MOST_SLOTS = 1024;

    private Keys() {
    }

    /** A key whose home is this slot of 1024, and so home % n of n slots. */
    static int of(int home) {
        return of(home, 0);
    }

    /** The same, but another key for each nth from 0 on. */
    static int of(int home, int nth) {
        int left = nth;
        for (int k = 1; ; k++) {
            if (home(k) == home && left-- == 0) {
                return k;
            }
        }
    }

    private static long home(int k) {
        long product = Math.floorMod(k * 0x9E3779B1L, 0x100000000L);
        return (product ^ (product / 0x8000L)) % MOST_SLOTS;
    }
}
