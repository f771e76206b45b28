/** The document's Terms: LOOKUP, put, and when it is FULL. */
public final class PutTermsTest {
    private static final Checks CHECKS = new Checks("PutTermsTest");

    public static void main(String[] args) {
        aKeyOfTheNewTableIsNotLookedForInTheOldOne();
        aKeyIsLookedForInTheOldTableWhileItIsMigrating();
        nothingIsLookedForInATableThatIsNoMore();
        aFoundKeyGetsAnotherValueWhereItIs();
        aFoundKeyGetsAnotherValueInTheOldTable();
        aFoundKeyGetsAnotherValueInAFullMap();
        aKeyMoreComesWhereLookingForItEnded();
        aKeyMoreComesIntoTheNewTableAlone();
        doublingUpToHalfIsNoReasonToRefuse();
        doublingBeyondHalfIsRefused();
        aRefusedPutChangesNothingButTheWork();
        oneKeyLessMakesRoomForOneMore();
        whatMakesATableDoubleWithinHalfIsNotRefusedWhileMigrating();
        CHECKS.end();
    }

    /** "in the new table; if it is not there, .. in the old one". */
    private static void aKeyOfTheNewTableIsNotLookedForInTheOldOne() {
        LimitedMap x = Maps.grownTo(16);
        x.put(Keys.of(8), 8);
        CHECKS.due("cursor()", x.cursor(), 4);
        for (int home : new int[] {2, 3, 8}) {
            CHECKS.due("get of home " + home, x.get(Keys.of(home)), home);
            CHECKS.due("lastWork() of home " + home, x.lastWork(), 1);
        }
    }

    /** "and it is migrating, in the old one": from the call on that doubles. */
    private static void aKeyIsLookedForInTheOldTableWhileItIsMigrating() {
        LimitedMap x = Maps.grownTo(16);
        for (int home = 2; home < 8; home++) {
            CHECKS.due("get of home " + home, x.get(Keys.of(home)), home);
            CHECKS.due("lastWork() of home " + home, x.lastWork(), 2);
        }
        CHECKS.due("has of no key", x.has(Keys.of(9)), false);
        CHECKS.due("lastWork() of no key", x.lastWork(), 2);
    }

    /** Before the first migration, and from the call on that ends one, the new table alone is visited. */
    private static void nothingIsLookedForInATableThatIsNoMore() {
        LimitedMap x = new LimitedMap(64);
        Maps.putHomes(x, 2, 5);
        CHECKS.due("has before any migration", x.has(Keys.of(0)), false);
        CHECKS.due("lastWork() before any migration", x.lastWork(), 1);
        x = Maps.grownTo(16);
        x.put(Keys.of(8), 8);
        x.put(Keys.of(9), 9);
        CHECKS.due("cursor() behind the last slot", x.cursor(), -1);
        CHECKS.due("has behind a migration", x.has(Keys.of(10)), false);
        CHECKS.due("lastWork() behind a migration", x.lastWork(), 1);
        // None is to be found once more in the old table: down to three keys, for with two it is halved.
        for (int home = 2; home < 7; home++) {
            CHECKS.due("remove of home " + home, x.remove(Keys.of(home)), true);
            CHECKS.due("slot of home " + home + ", removed", x.slot(Keys.of(home)), -1);
        }
    }

    /** "if it is found its value is another one, where it is": no key more, nothing moved. */
    private static void aFoundKeyGetsAnotherValueWhereItIs() {
        LimitedMap x = new LimitedMap(8);
        for (int nth = 0; nth < 3; nth++) {
            x.put(Keys.of(7, nth), nth);
        }
        for (int nth = 0; nth < 3; nth++) {
            int k = Keys.of(7, nth);
            CHECKS.due("put of number " + nth, x.put(k, -nth), 0);
            CHECKS.dueState("put of number " + nth, x, 3, 8, -1, nth + 1);
            CHECKS.due("slot of number " + nth, x.slot(k), (7 + nth) % 8);
            CHECKS.due("get of number " + nth, x.get(k), -nth);
        }
    }

    /** The same in the old table: not even the key that is moved next comes into the new one. */
    private static void aFoundKeyGetsAnotherValueInTheOldTable() {
        LimitedMap x = Maps.grownTo(16);
        for (int home = 2; home < 8; home++) {
            int k = Keys.of(home);
            CHECKS.due("put of home " + home, x.put(k, 100 + home), 0);
            CHECKS.dueState("put of home " + home, x, 6, 16, 0, 2);
            CHECKS.due("slot of home " + home, x.slot(k), 2000 + home);
            CHECKS.due("get of home " + home, x.get(k), 100 + home);
        }
        x.put(Keys.of(8), 8);
        x.put(Keys.of(9), 9);
        for (int home = 2; home < 8; home++) {
            CHECKS.due("get of home " + home + ", moved", x.get(Keys.of(home)), 100 + home);
            CHECKS.due("slot of home " + home + ", moved", x.slot(Keys.of(home)), home);
        }
    }

    /** The same in a map that refuses every key more. */
    private static void aFoundKeyGetsAnotherValueInAFullMap() {
        for (int half = 8; half <= 64; half *= 2) {
            LimitedMap x = full(half);
            for (int home = 1; home <= keysOfFull(half); home++) {
                CHECKS.due("put of a known key, HALF " + half, x.put(Keys.of(home), -home), 0);
                CHECKS.due("get of a known key, HALF " + half, x.get(Keys.of(home)), -home);
            }
            CHECKS.due("put of a key more, HALF " + half, x.put(Keys.of(0), 1), StepMap.FULL);
        }
    }

    /** "Otherwise it comes into the empty slot where looking for it in the new table ended". */
    private static void aKeyMoreComesWhereLookingForItEnded() {
        LimitedMap x = new LimitedMap(8);
        int[] homes = {6, 6, 7, 0, 2};
        int[] slots = {6, 7, 0, 1, 2};
        int[] work = {1, 2, 2, 2, 1};
        for (int i = 0; i < homes.length; i++) {
            int k = Keys.of(homes[i], i);
            CHECKS.due("put of number " + i, x.put(k, i), 0);
            CHECKS.dueState("put of number " + i, x, i + 1, 8, -1, work[i]);
            CHECKS.due("slot of number " + i, x.slot(k), slots[i]);
        }
    }

    /** "in the new table": not in the old one, whose slots before it and at its home are empty or taken. */
    private static void aKeyMoreComesIntoTheNewTableAlone() {
        LimitedMap x = Maps.grownTo(16);
        CHECKS.due("put of old home 0, which is empty", x.put(Keys.of(8), 8), 0);
        CHECKS.due("slot", x.slot(Keys.of(8)), 8);
        CHECKS.due("cursor()", x.cursor(), 4);
        CHECKS.due("put of old home 2, which is taken", x.put(Keys.of(10), 10), 0);
        CHECKS.due("slot", x.slot(Keys.of(10)), 10);
        // Number 1 of home 4 is at home before this call's moving: home 4's first comes behind it.
        x = Maps.grownTo(16);
        x.put(Keys.of(9), 9);
        x.put(Keys.of(4, 1), 1);
        CHECKS.due("slot of what was put before the moving", x.slot(Keys.of(4, 1)), 4);
        CHECKS.due("slot of what was moved behind it", x.slot(Keys.of(4)), 5);
    }

    /** "if it would be doubled by that beyond HALF": to HALF itself it is doubled. */
    private static void doublingUpToHalfIsNoReasonToRefuse() {
        for (int half = 16; half <= 512; half *= 2) {
            LimitedMap x = new LimitedMap(half);
            int last = Maps.keysThatGrowTo(half);
            Maps.putHomes(x, 1, last - 1);
            CHECKS.due("capacity() before the last doubling", x.capacity(), half / 2);
            CHECKS.due("put that doubles to " + half, x.put(Keys.of(last), last), 0);
            CHECKS.dueState("put that doubles to " + half, x, last, half, 0, x.lastWork());
        }
    }

    /** ".. beyond HALF": with one key more it would have just three quarters, and with one less it has not. */
    private static void doublingBeyondHalfIsRefused() {
        for (int half = 8; half <= 512; half *= 2) {
            LimitedMap x = new LimitedMap(half);
            int most = keysOfFull(half);
            Maps.putHomes(x, 1, most - 1);
            CHECKS.due("put of key " + most + " of " + half, x.put(Keys.of(most), most), 0);
            CHECKS.due("put of one more", x.put(Keys.of(most + 1), 1), -2000000001);
            CHECKS.dueState("put of one more", x, most, half, -1, 1);
        }
    }

    /** "(it is FULL, and nothing changes but THE WORK ..": not even when it is refused again and again. */
    private static void aRefusedPutChangesNothingButTheWork() {
        for (int half = 8; half <= 64; half *= 2) {
            LimitedMap x = full(half);
            int most = keysOfFull(half);
            for (int again = 0; again < 2; again++) {
                int k = Keys.of(1, 1);
                CHECKS.due("put behind all keys of " + half, x.put(k, 5), StepMap.FULL);
                CHECKS.dueState("a refused put", x, most, half, -1, most + 1);
                CHECKS.due("slot of the refused", x.slot(k), -1);
                CHECKS.due("get of the refused", x.get(k), 0);
                CHECKS.due("has of the refused", x.has(k), false);
                CHECKS.due("remove of the refused", x.remove(k), false);
            }
            for (int home = 1; home <= most; home++) {
                CHECKS.due("slot of another", x.slot(Keys.of(home)), home);
                CHECKS.due("get of another", x.get(Keys.of(home)), home);
            }
        }
    }

    /** "with one key more": what was refused comes when one is gone, and then the gone one is refused. */
    private static void oneKeyLessMakesRoomForOneMore() {
        for (int half = 8; half <= 512; half *= 2) {
            LimitedMap x = full(half);
            int refused = Keys.of(0);
            int gone = Keys.of(1);
            CHECKS.due("put, HALF " + half, x.put(refused, 3), StepMap.FULL);
            CHECKS.due("remove, HALF " + half, x.remove(gone), true);
            CHECKS.due("put with room, HALF " + half, x.put(refused, 4), 0);
            CHECKS.due("get, HALF " + half, x.get(refused), 4);
            CHECKS.due("put of the gone, HALF " + half, x.put(gone, 5), StepMap.FULL);
            CHECKS.due("size(), HALF " + half, x.size(), keysOfFull(half));
        }
    }

    /**
     * "beyond HALF": shrunk from HALF to half of it, it gets three quarters of that in keys with the last
     * call of the migration, and is doubled to HALF again.
     */
    private static void whatMakesATableDoubleWithinHalfIsNotRefusedWhileMigrating() {
        for (int half = 16; half <= 128; half *= 2) {
            LimitedMap x = new LimitedMap(half);
            int grown = Maps.keysThatGrowTo(half);
            Maps.putHomes(x, 0, grown);
            for (int home = grown - 1; home >= half / 8; home--) {
                x.remove(Keys.of(home));
            }
            CHECKS.dueState("halved from " + half, x, half / 8, half / 2, 0, x.lastWork());
            for (int i = 0; i < half / 4; i++) {
                CHECKS.due("cursor()", x.cursor(), 4 * i);
                CHECKS.due("put while it is migrating", x.put(Keys.of(half / 8 + i), i), 0);
            }
            CHECKS.dueState("doubled to " + half, x, 3 * half / 8, half, 0, x.lastWork());
        }
    }

    private static int keysOfFull(int half) {
        return half / 4 * 3 - 1;
    }

    /** A map with HALF slots that takes no key more: in slots 1, 2, .. are Keys.of(1), Keys.of(2), ... */
    private static LimitedMap full(int half) {
        LimitedMap x = new LimitedMap(half);
        Maps.putHomes(x, 1, keysOfFull(half));
        return x;
    }
}
