/** Promise 7: capacity. */
public final class CapacityTest {
    private static final Checks CHECKS = new Checks("CapacityTest");

    public static void main(String[] args) {
        itDoublesWithThreeQuarters();
        itHalvesWithAnEighth();
        itIsNeverBelowEight();
        itIsNeverBeyondHalf();
        itIsNotHalvedAgainBeforeTheMigrationEnds();
        itDoublesAtOnceWhenTheMigrationEnds();
        CHECKS.end();
    }

    private static void itDoublesWithThreeQuarters() {
        LimitedMap x = new LimitedMap(1024);
        int due = 8;
        for (int k = 0; k < 400; k++) {
            x.put(k, k);
            boolean asked = (k + 2) * 4 == due * 3;
            if ((k + 1) * 4 == due * 3) {
                due *= 2;
                asked = true;
            }
            if (asked) {
                CHECKS.due("capacity() with " + (k + 1) + " keys", x.capacity(), due);
            }
        }
        CHECKS.due("capacity() with 400 keys", x.capacity(), 1024);
    }

    private static void itHalvesWithAnEighth() {
        LimitedMap x = Maps.grown();
        CHECKS.due("capacity() with 3 keys of 16", x.capacity(), 16);
        x.remove(42);
        CHECKS.dueState("with 2 keys of 16", x, 2, 8, 0, 2);

        x = Maps.counted(64, 32);
        CHECKS.dueState("32 keys of 64", x, 32, 64, -1, x.lastWork());
        for (int k = 31; k >= 9; k--) {
            x.remove(k);
            CHECKS.due("capacity() with " + k + " keys", x.capacity(), 64);
        }
        x.remove(8);
        CHECKS.due("capacity() with 8 keys of 64", x.capacity(), 32);
        CHECKS.due("cursor() with 8 keys of 64", x.cursor(), 0);
    }

    private static void itIsNeverBelowEight() {
        LimitedMap x = new LimitedMap(64);
        x.put(5, 5);
        CHECKS.dueState("one key of 8", x, 1, 8, -1, 1);
        x.remove(5);
        CHECKS.dueState("no key of 8", x, 0, 8, -1, 2);
        x = Maps.shrinking();
        x.remove(0);
        x.remove(23);
        x.put(0, 0);
        CHECKS.due("cursor() of the shrinking", x.cursor(), 12);
        x.remove(0);
        CHECKS.due("cursor() of the shrunk", x.cursor(), -1);
        CHECKS.due("size() of the shrunk", x.size(), 0);
        CHECKS.due("capacity() of the shrunk", x.capacity(), 8);
    }

    private static void itIsNeverBeyondHalf() {
        for (int half = 8; half <= 256; half *= 2) {
            LimitedMap x = Maps.counted(half, half);
            CHECKS.due("capacity() of a full map of " + half, x.capacity(), half);
            CHECKS.due("migrating() of a full map of " + half, x.migrating(), false);
        }
    }

    /** From 64 slots with 8 keys: halved to 32, then with ever fewer keys for the 16 calls of the migration. */
    private static void itIsNotHalvedAgainBeforeTheMigrationEnds() {
        for (int last = 0; last < 2; last++) {
            LimitedMap x = Maps.counted(64, 32);
            for (int k = 31; k >= 8; k--) {
                x.remove(k);
            }
            for (int k = 7; k >= 1; k--) {
                x.remove(k);
                CHECKS.due("capacity() with " + k + " keys, migrating", x.capacity(), 32);
            }
            for (int i = 7; i < 15; i++) {
                if (i % 2 == 0) {
                    x.remove(100);
                } else {
                    x.put(100, 1);
                }
                CHECKS.due("capacity() after " + (i + 1) + " calls", x.capacity(), 32);
                CHECKS.due("cursor() after " + (i + 1) + " calls", x.cursor(), 4 * (i + 1));
            }
            // The sixteenth call ends it, be it a put of a key more or a remove of one.
            if (last == 0) {
                x.put(200, 1);
            } else {
                x.remove(0);
            }
            CHECKS.due("capacity() when the migration ends", x.capacity(), 16);
            CHECKS.due("cursor() when the migration ends", x.cursor(), 0);
            CHECKS.due("size() when the migration ends", x.size(), last == 0 ? 2 : 0);
        }
    }

    private static void itDoublesAtOnceWhenTheMigrationEnds() {
        LimitedMap x = Maps.shrinking();
        x.put(46, 1);
        x.put(77, 1);
        x.put(41, 1);
        CHECKS.dueState("five keys of eight, migrating", x, 5, 8, 12, 6);
        x.put(27, 1);
        CHECKS.dueState("six keys of eight, and the migration ends", x, 6, 16, 0, 10);
    }
}
