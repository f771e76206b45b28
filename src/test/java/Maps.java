/**
 * Maps in states that several tests start from. The homes of the keys that the tests use:
 *
 * <pre>
 * key        0  1  2 21 22 23 27 41 42 46 77 999
 * of  8      0  7  7  4  6  0  0  5  1  1  2   0
 * of 16      0 15 15 12 14  0  8 13  9  1  2   0
 * </pre>
 */
final class Maps {
    private Maps() {
    }

    /** Five keys of eight slots: 0 in 0, 23 in 1, 42 in 2, 77 in 3, 41 in 5; a value is ten times its key. */
    static LimitedMap withFive(int half) {
        LimitedMap x = new LimitedMap(half);
        for (int k : new int[] {0, 23, 42, 77, 41}) {
            x.put(k, 10 * k);
        }
        return x;
    }

    /** The five and 27 in slot 4, and so doubled: the old table has all six, the cursor is 0. */
    static LimitedMap growing() {
        LimitedMap x = withFive(64);
        x.put(27, 270);
        return x;
    }

    /** Sixteen slots with 0 in slot 0, 23 in slot 1, 42 in slot 9; not migrating. */
    static LimitedMap grown() {
        LimitedMap x = growing();
        x.remove(77);
        x.remove(27);
        x.remove(41);
        return x;
    }

    /** Halved from sixteen slots to eight: the old table has 0 in slot 0 and 23 in slot 1, the cursor is 0. */
    static LimitedMap shrinking() {
        LimitedMap x = grown();
        x.remove(42);
        return x;
    }

    /**
     * Just grown to so many slots, from 16 to 1024: the new table is empty, the cursor 0, and in the old
     * table's slots 2, 3, .. are Keys.of(2), Keys.of(3), .., with their slot as their value. For 8 slots
     * a new object, with HALF 1024 like the others.
     */
    static LimitedMap grownTo(int slots) {
        LimitedMap x = new LimitedMap(1024);
        if (slots > 8) {
            putHomes(x, 2, keysThatGrowTo(slots));
        }
        return x;
    }

    /** How many keys make a table of half as many slots double. */
    static int keysThatGrowTo(int slots) {
        return slots / 2 * 3 / 4;
    }

    /** Puts Keys.of(first), Keys.of(first + 1), .., each with its home as its value. */
    static void putHomes(LimitedMap x, int first, int count) {
        for (int home = first; home < first + count; home++) {
            x.put(Keys.of(home), home);
        }
    }

    /** A map with the keys 0 .. count - 1, each its own value. */
    static LimitedMap counted(int half, int count) {
        LimitedMap x = new LimitedMap(half);
        for (int k = 0; k < count; k++) {
            x.put(k, k);
        }
        return x;
    }
}
