/** The document's Terms: what is moved, and when the map is doubled or halved. */
public final class MovingTermsTest {
    private static final Checks CHECKS = new Checks("MovingTermsTest");

    public static void main(String[] args) {
        onlyAKeyMoreOrLessMoves();
        theCallThatDoublesMovesNothing();
        theCallThatHalvesMovesNothing();
        fourSlotsAreVisitedWithOrWithoutKeys();
        theSlotsAreThoseFromTheCursorOn();
        aMovedKeyComesIntoTheEmptySlotBehindOthers();
        aMovedKeyComesRoundTheRing();
        aMovedKeyKeepsItsValue();
        behindTheLastSlotItMigratesNoMore();
        itIsDoubledWithJustThreeQuarters();
        itIsNotDoubledBelowThreeQuarters();
        itIsHalvedWithJustAnEighth();
        itIsNotHalvedAboveAnEighth();
        itIsHalvedWithLessThanAnEighth();
        itIsNotHalvedBelowEight();
        nothingElseBeginsWhileItIsMigrating();
        aNewMigrationMayBeginWithTheCallThatEndsOne();
        theNewTableIsTheOldOneThen();
        theNewOneIsEmptyWhenItIsHalved();
        theNewOneIsEmptyWhenItIsDoubledAgain();
        CHECKS.end();
    }

    /** "Behind a put of a key more, or a remove of one": behind no other call, each with a moving still to do. */
    private static void onlyAKeyMoreOrLessMoves() {
        LimitedMap x = Maps.grownTo(32);
        x.put(Keys.of(20), 20);
        int inNew = Keys.of(2);
        int inOld = Keys.of(13);
        int none = Keys.of(25);
        for (int k : new int[] {inNew, inOld}) {
            x.put(k, 1);
            dueUnmoved("put of a key that is there", x);
        }
        for (int k : new int[] {inNew, inOld, none}) {
            x.get(k);
            dueUnmoved("get", x);
            x.has(k);
            dueUnmoved("has", x);
            x.slot(k);
            dueUnmoved("slot", x);
        }
        x.remove(none);
        dueUnmoved("remove of none", x);
        x.put(none, 1);
        CHECKS.due("cursor() behind a put of a key more", x.cursor(), 8);
        x.remove(none);
        CHECKS.due("cursor() behind a remove of one", x.cursor(), 12);
        x.remove(inOld);
        CHECKS.due("cursor() behind a remove of one of the old table", x.cursor(), -1);
    }

    private static void dueUnmoved(String after, LimitedMap x) {
        CHECKS.due("cursor() behind a " + after, x.cursor(), 4);
        CHECKS.due("size() behind a " + after, x.size(), 13);
        CHECKS.due("slot of the next to move, behind a " + after, x.slot(Keys.of(4)), 2004);
    }

    /** "if it is migrating, the next four slots ..": before that call it was not. */
    private static void theCallThatDoublesMovesNothing() {
        for (int slots = 16; slots <= 512; slots *= 2) {
            LimitedMap x = Maps.grownTo(slots);
            CHECKS.due("lastWork() of the put that doubled to " + slots, x.lastWork(), 1);
            CHECKS.dueState("doubled", x, Maps.keysThatGrowTo(slots), slots, 0, 1);
            CHECKS.due("slot of the first", x.slot(Keys.of(2)), 2002);
        }
    }

    private static void theCallThatHalvesMovesNothing() {
        LimitedMap x = halvedFrom(64);
        // 1 to find the last key, and the empty slot behind it.
        CHECKS.dueState("halved", x, 8, 32, 0, 2);
        CHECKS.due("slot of the first", x.slot(Keys.of(2)), 2002);
    }

    /** "the next four slots of the old table are visited": four without a key, four with, and two of each. */
    private static void fourSlotsAreVisitedWithOrWithoutKeys() {
        LimitedMap x = new LimitedMap(64);
        Maps.putHomes(x, 4, 12);
        CHECKS.dueState("twelve of sixteen", x, 12, 32, 0, 1);
        x.put(Keys.of(16), 16);
        CHECKS.dueState("slots 0 to 3, without keys", x, 13, 32, 4, 1 + 1 + 4);
        x.put(Keys.of(17), 17);
        CHECKS.dueState("slots 4 to 7, with four keys", x, 14, 32, 8, 1 + 1 + 4 + 4);
        x = Maps.grownTo(16);
        x.put(Keys.of(8), 8);
        CHECKS.dueState("slots 0 to 3, with two keys", x, 7, 16, 4, 1 + 1 + 4 + 2);
    }

    /** "from the cursor on": not the slots before it, nor the ones behind the four. */
    private static void theSlotsAreThoseFromTheCursorOn() {
        for (int slots = 16; slots <= 256; slots *= 2) {
            LimitedMap x = Maps.grownTo(slots);
            int keys = Maps.keysThatGrowTo(slots);
            for (int call = 1; 4 * call < slots / 2; call++) {
                x.put(Keys.of(slots - call), 1);
                CHECKS.due("cursor()", x.cursor(), 4 * call);
                int moved = 4 * call - 1;
                CHECKS.due("slot of the last that was moved", x.slot(Keys.of(moved)), moved < 2 + keys ? moved : -1);
                int next = 4 * call;
                CHECKS.due("slot of the next", x.slot(Keys.of(next)), next < 2 + keys ? 2000 + next : -1);
            }
        }
    }

    /** "it is looked for there: into the empty slot": each key that it passes is work. */
    private static void aMovedKeyComesIntoTheEmptySlotBehindOthers() {
        LimitedMap x = new LimitedMap(64);
        for (int nth = 0; nth < 6; nth++) {
            x.put(Keys.of(2, nth), nth);
        }
        x.put(Keys.of(2, 6), 6);
        // Old: 2 to 7, and 0, which is empty. Of slots 0 to 3 two have a key; they come behind the new one.
        CHECKS.dueState("put before the moving", x, 7, 16, 4, 1 + 7 + 4 + 2 + 3);
        int[] slots = {3, 4, 2004, 2005, 2006, 2007, 2};
        for (int nth = 0; nth < slots.length; nth++) {
            CHECKS.due("slot of number " + nth, x.slot(Keys.of(2, nth)), slots[nth]);
        }
        x.remove(Keys.of(2, 6));
        // Found at 2; 3, 4 and 5, of which the first two come; of slots 4 to 7 all have a key, from 4 on.
        CHECKS.dueState("remove before the moving", x, 6, 16, -1, 1 + 3 + 4 + 3 + 4 + 5 + 6);
        for (int nth = 0; nth < 6; nth++) {
            CHECKS.due("slot of number " + nth, x.slot(Keys.of(2, nth)), 2 + nth);
        }
    }

    private static void aMovedKeyComesRoundTheRing() {
        LimitedMap x = new LimitedMap(64);
        Maps.putHomes(x, 2, 5);
        x.put(Keys.of(15), 15);
        x.put(Keys.of(15, 1), 1);
        CHECKS.due("slot of the key more", x.slot(Keys.of(15, 1)), 15);
        CHECKS.due("slot of the key not yet moved", x.slot(Keys.of(15)), 2007);
        x.put(Keys.of(14), 14);
        // New: 14. Old: 6, 7, 0. Slots 4 to 7, each with a key; the last comes from 15 round to 0.
        CHECKS.dueState("moved round the ring", x, 8, 16, -1, 1 + 3 + 4 + 1 + 1 + 1 + 2);
        CHECKS.due("slot of the key moved round the ring", x.slot(Keys.of(15)), 0);
    }

    private static void aMovedKeyKeepsItsValue() {
        for (int slots = 16; slots <= 64; slots *= 2) {
            LimitedMap x = Maps.grownTo(slots);
            for (int call = 0; call < slots / 8; call++) {
                x.put(Keys.of(slots - 1 - call), 1);
            }
            CHECKS.due("migrating()", x.migrating(), false);
            for (int home = 2; home < 2 + Maps.keysThatGrowTo(slots); home++) {
                CHECKS.due("get of a moved key", x.get(Keys.of(home)), home);
            }
        }
    }

    /** "behind the last slot it migrates no more": with the very call that visits it, be it a put or a remove. */
    private static void behindTheLastSlotItMigratesNoMore() {
        for (int slots = 16; slots <= 512; slots *= 2) {
            for (int odd = 0; odd < 2; odd++) {
                LimitedMap x = Maps.grownTo(slots);
                int k = Keys.of(slots - 1);
                // The old table has half as many slots, and each call visits four of them.
                int calls = slots / 8;
                for (int call = 1; call < calls; call++) {
                    putOrRemove(x, k);
                }
                CHECKS.due("cursor() before the last four of " + slots / 2, x.cursor(), slots / 2 - 4);
                CHECKS.due("migrating() before the last four", x.migrating(), true);
                if (odd == 0) {
                    x.put(Keys.of(slots - 1, 1), 1);
                } else {
                    x.remove(Keys.of(2));
                }
                CHECKS.due("cursor() behind the last four of " + slots / 2, x.cursor(), -1);
                CHECKS.due("migrating() behind the last four", x.migrating(), false);
                CHECKS.due("capacity() behind the last four", x.capacity(), slots);
            }
        }
    }

    /** "with three quarters of the capacity or more in keys it is doubled". */
    private static void itIsDoubledWithJustThreeQuarters() {
        for (int slots = 8; slots <= 512; slots *= 2) {
            LimitedMap x = new LimitedMap(1024);
            Maps.putHomes(x, 0, slots * 3 / 4);
            CHECKS.dueState("three quarters of " + slots, x, slots * 3 / 4, 2 * slots, 0, 1);
        }
    }

    private static void itIsNotDoubledBelowThreeQuarters() {
        for (int slots = 8; slots <= 512; slots *= 2) {
            LimitedMap x = new LimitedMap(1024);
            Maps.putHomes(x, 0, slots * 3 / 4 - 1);
            CHECKS.dueState("below three quarters of " + slots, x, slots * 3 / 4 - 1, slots, -1, 1);
            x.put(Keys.of(0), 7);
            CHECKS.due("capacity() when a known key is put", x.capacity(), slots);
        }
    }

    /** "with an eighth or less it is halved". */
    private static void itIsHalvedWithJustAnEighth() {
        for (int slots = 16; slots <= 512; slots *= 2) {
            LimitedMap x = halvedFrom(slots);
            CHECKS.dueState("an eighth of " + slots, x, slots / 8, slots / 2, 0, 2);
        }
    }

    private static void itIsNotHalvedAboveAnEighth() {
        for (int slots = 16; slots <= 512; slots *= 2) {
            LimitedMap x = aboveAnEighthOf(slots);
            CHECKS.dueState("above an eighth of " + slots, x, slots / 8 + 1, slots, -1, 2);
            x.remove(Keys.of(0));
            CHECKS.due("capacity() when no key is removed", x.capacity(), slots);
        }
    }

    /** ".. or less": it had just an eighth before, but was migrating; behind a put of a key more as well. */
    private static void itIsHalvedWithLessThanAnEighth() {
        for (int keysAtTheEnd = 0; keysAtTheEnd <= 3; keysAtTheEnd++) {
            LimitedMap x = halvedFrom(64);
            for (int home = 2; home < 10; home++) {
                x.remove(Keys.of(home));
            }
            CHECKS.dueState("no key, migrating", x, 0, 32, 32, x.lastWork());
            for (int home = 0; home < keysAtTheEnd; home++) {
                x.put(Keys.of(home), home);
            }
            int k = Keys.of(20);
            for (int call = keysAtTheEnd; call < 8; call++) {
                putOrRemove(x, k);
            }
            // If these calls are odd in number, the last is a put, and its key is still there.
            int keys = keysAtTheEnd + (8 - keysAtTheEnd) % 2;
            CHECKS.dueState(keys + " keys of 32, migrating no more", x, keys, 16, 0, x.lastWork());
        }
    }

    /** "(not below 8)": with one key of 8, with none, and where a migration to 8 ends. */
    private static void itIsNotHalvedBelowEight() {
        LimitedMap x = new LimitedMap(64);
        x.put(Keys.of(5), 5);
        CHECKS.dueState("one key of 8", x, 1, 8, -1, 1);
        x.remove(Keys.of(5));
        CHECKS.dueState("no key of 8", x, 0, 8, -1, 2);
        for (int keysAtTheEnd = 0; keysAtTheEnd < 2; keysAtTheEnd++) {
            x = halvedFrom(16);
            x.remove(Keys.of(2));
            x.remove(Keys.of(3));
            x.put(Keys.of(4), 4);
            CHECKS.dueState("one key of 8, migrating", x, 1, 8, 12, x.lastWork());
            if (keysAtTheEnd == 0) {
                x.remove(Keys.of(4));
            } else {
                x.remove(Keys.of(3));
                CHECKS.due("cursor() when none was removed", x.cursor(), 12);
                x.put(Keys.of(5), 5);
                CHECKS.due("cursor() with two keys of 8", x.cursor(), -1);
                x.remove(Keys.of(5));
            }
            CHECKS.dueState("migrating no more", x, keysAtTheEnd, 8, -1, x.lastWork());
        }
    }

    /** "If it does not migrate then": with an eighth or less it goes on migrating first. */
    private static void nothingElseBeginsWhileItIsMigrating() {
        LimitedMap x = halvedFrom(64);
        for (int home = 2; home < 9; home++) {
            x.remove(Keys.of(home));
            int keys = 9 - home;
            CHECKS.dueState(keys + " keys of 32, migrating", x, keys, 32, 4 * (home - 1), x.lastWork());
        }
    }

    /** "then" is behind this call's moving: halved twice, and doubled behind a halving. */
    private static void aNewMigrationMayBeginWithTheCallThatEndsOne() {
        LimitedMap x = halvedFrom(32);
        for (int home = 2; home < 6; home++) {
            x.remove(Keys.of(home));
        }
        int k = Keys.of(9);
        for (int call = 4; call < 7; call++) {
            putOrRemove(x, k);
        }
        CHECKS.dueState("the call before", x, 1, 16, 28, x.lastWork());
        x.remove(k);
        CHECKS.dueState("halved again", x, 0, 8, 0, x.lastWork());

        x = halvedFrom(16);
        Maps.putHomes(x, 4, 3);
        CHECKS.dueState("the call before", x, 5, 8, 12, x.lastWork());
        x.put(Keys.of(7), 7);
        CHECKS.dueState("doubled again", x, 6, 16, 0, x.lastWork());
        CHECKS.due("slot of the key put by that call", x.slot(Keys.of(7)), 2007);
    }

    /** "the new table is the old one then, the cursor 0 ..; it is migrating": each key stays in its slot. */
    private static void theNewTableIsTheOldOneThen() {
        for (int slots = 16; slots <= 256; slots *= 2) {
            LimitedMap x = Maps.grownTo(slots);
            CHECKS.due("migrating() to " + slots, x.migrating(), true);
            CHECKS.due("cursor() at first", x.cursor(), 0);
            for (int home = 2; home < 2 + Maps.keysThatGrowTo(slots); home++) {
                CHECKS.due("slot, doubled to " + slots, x.slot(Keys.of(home)), 2000 + home);
            }
            x = halvedFrom(slots);
            CHECKS.due("migrating() from " + slots, x.migrating(), true);
            CHECKS.due("cursor() at first", x.cursor(), 0);
            for (int home = 2; home < 2 + slots / 8; home++) {
                CHECKS.due("slot, halved from " + slots, x.slot(Keys.of(home)), 2000 + home);
            }
        }
    }

    /** "and the new one empty": from each of its slots a search goes no further, though it was full before. */
    private static void theNewOneIsEmptyWhenItIsHalved() {
        LimitedMap x = halvedFrom(16);
        for (int home = 8; home < 16; home++) {
            CHECKS.due("has of none", x.has(Keys.of(home)), false);
            CHECKS.due("lastWork(): 1 in each table", x.lastWork(), 2);
        }
        CHECKS.due("has of a key that an earlier table had", x.has(Keys.of(7)), false);
    }

    /** The same of 16 slots that come again: in slots 2 and 3 were keys, both there and when it was halved. */
    private static void theNewOneIsEmptyWhenItIsDoubledAgain() {
        LimitedMap x = halvedFrom(16);
        Maps.putHomes(x, 4, 4);
        CHECKS.dueState("doubled again", x, 6, 16, 0, x.lastWork());
        for (int home = 0; home < 16; home++) {
            int k = Keys.of(home, 1);
            CHECKS.due("has of none", x.has(k), false);
            // Old: the keys in 2 to 7 from its home on, and slot 0.
            CHECKS.due("lastWork()", x.lastWork(), 1 + (home % 8 < 2 ? 1 : 9 - home % 8));
        }
    }

    /** Puts a key, or removes it if it is there: either way a call that moves. */
    private static void putOrRemove(LimitedMap x, int k) {
        if (x.slot(k) == -1) {
            x.put(k, 1);
        } else {
            x.remove(k);
        }
    }

    /** A map of so many slots with one key more than an eighth of them, at home in slots 2, 3, ..; not migrating. */
    private static LimitedMap aboveAnEighthOf(int slots) {
        LimitedMap x = Maps.grownTo(slots);
        for (int home = 1 + Maps.keysThatGrowTo(slots); home > 2 + slots / 8; home--) {
            x.remove(Keys.of(home));
        }
        return x;
    }

    /** One key less than that, and so just halved: the old table has so many slots. */
    private static LimitedMap halvedFrom(int slots) {
        LimitedMap x = aboveAnEighthOf(slots);
        x.remove(Keys.of(2 + slots / 8));
        return x;
    }
}
