/** The document's Terms: tables, homes, what is looked for and visited, and what is taken. */
public final class TableTermsTest {
    private static final Checks CHECKS = new Checks("TableTermsTest");

    public static void main(String[] args) {
        theNewTableIsARing();
        theOldTableIsARing();
        aHomeIsTheRemainderOfAScatteredKey();
        aSearchEndsAtTheKey();
        aSearchEndsAtAnEmptySlot();
        theCapacityIsEightAtFirst();
        theCapacityIsTheNewTables();
        aSlotBeforeTheCursorThatHadAKeyIsNotEmpty();
        aSlotBeforeTheCursorThatHadAKeyHasItNoMore();
        anEmptySlotBeforeTheCursorStaysEmpty();
        aSlotOfTheOldTableWhoseKeyWasRemovedIsTaken();
        CHECKS.end();
    }

    /** "A TABLE has 2^n SLOTS in a ring": behind the last one of the new table is slot 0. */
    private static void theNewTableIsARing() {
        for (int slots = 8; slots <= 1024; slots *= 2) {
            LimitedMap x = Maps.grownTo(slots);
            for (int nth = 0; nth < 3; nth++) {
                int k = Keys.of(slots - 1, nth);
                x.put(k, nth);
                CHECKS.due("slot of number " + nth + " at home in the last of " + slots,
                        x.slot(k), (slots - 1 + nth) % slots);
            }
            CHECKS.due("has, round the ring of " + slots, x.has(Keys.of(slots - 1, 2)), true);
            CHECKS.due("lastWork(), round the ring of " + slots, x.lastWork(), 3);
        }
    }

    /** The same of the old table: of 512 slots at most, for a halving from 1024 takes more than 512 calls. */
    private static void theOldTableIsARing() {
        for (int slots = 8; slots <= 512; slots *= 2) {
            LimitedMap x = new LimitedMap(1024);
            Maps.putHomes(x, 2, slots * 3 / 4 - 2);
            int last = Keys.of(slots - 1, 0);
            int round = Keys.of(slots - 1, 1);
            x.put(last, 1);
            x.put(round, 2);
            CHECKS.due("capacity() doubled from " + slots, x.capacity(), 2 * slots);
            CHECKS.due("slot of the last of " + slots, x.slot(last), 2000 + slots - 1);
            CHECKS.due("slot round the ring of " + slots, x.slot(round), 2000);
            CHECKS.due("get, round the old ring of " + slots, x.get(round), 2);
            CHECKS.due("lastWork(): 1 in the new table, 2 in the old", x.lastWork(), 3);
            CHECKS.due("has of none, round the old ring of " + slots, x.has(Keys.of(slots - 1, 2)), false);
            CHECKS.due("lastWork(): 1 in the new table, 3 in the old", x.lastWork(), 4);
        }
    }

    /**
     * "k times 9E3779B1 (it wraps), that xor itself shifted right by 15, of that the remainder by n (from
     * 0 on)". A key put behind a doubling is at home, since the new table is empty; the homes of 1024 here
     * were reckoned outside Java. The products of -2, 32768, -100001 and others are below 0 as ints.
     */
    private static void aHomeIsTheRemainderOfAScatteredKey() {
        int[] keys = {0, -1, -2, Integer.MIN_VALUE, Integer.MAX_VALUE, StepMap.FULL, 32768, 65536, 1 << 24,
            1 << 30, 123456789, -987654321, -100001};
        int[] homes = {0, 478, 956, 0, 478, 989, 433, 866, 512, 0, 848, 498, 734};
        for (int slots = 8; slots <= 1024; slots *= 2) {
            for (int i = 0; i < keys.length; i++) {
                LimitedMap x = Maps.grownTo(slots);
                x.put(keys[i], 1);
                CHECKS.due("slot(" + keys[i] + ") of " + slots, x.slot(keys[i]), homes[i] % slots);
            }
        }
    }

    /** "looked for from its home on, slot by slot, until it is found ..: each slot that is looked at is VISITED". */
    private static void aSearchEndsAtTheKey() {
        LimitedMap x = new LimitedMap(8);
        for (int nth = 0; nth < 5; nth++) {
            x.put(Keys.of(3, nth), nth);
        }
        for (int nth = 0; nth < 5; nth++) {
            int k = Keys.of(3, nth);
            CHECKS.due("slot behind " + nth + " others", x.slot(k), (3 + nth) % 8);
            CHECKS.due("get behind " + nth + " others", x.get(k), nth);
            CHECKS.due("lastWork() behind " + nth + " others", x.lastWork(), nth + 1);
        }
    }

    /** ".. or a slot is EMPTY": at home, behind the fullest run, and never beyond that slot. */
    private static void aSearchEndsAtAnEmptySlot() {
        LimitedMap x = new LimitedMap(8);
        for (int home = 0; home < 8; home++) {
            CHECKS.due("has in a new object", x.has(Keys.of(home)), false);
            CHECKS.due("lastWork() in a new object", x.lastWork(), 1);
        }
        for (int nth = 0; nth < 4; nth++) {
            x.put(Keys.of(0, nth), nth);
        }
        x.put(Keys.of(6), 6);
        CHECKS.due("has behind four", x.has(Keys.of(0, 4)), false);
        CHECKS.due("lastWork() behind four", x.lastWork(), 5);
        CHECKS.due("has behind the last of four", x.has(Keys.of(3)), false);
        CHECKS.due("lastWork() behind the last of four", x.lastWork(), 2);
        CHECKS.due("has at an empty home between keys", x.has(Keys.of(5)), false);
        CHECKS.due("lastWork() at an empty home between keys", x.lastWork(), 1);
        CHECKS.due("has behind one", x.has(Keys.of(6, 1)), false);
        CHECKS.due("lastWork() behind one", x.lastWork(), 2);
    }

    /** "its slots are the CAPACITY, 8 at first". */
    private static void theCapacityIsEightAtFirst() {
        for (int half : new int[] {Integer.MIN_VALUE, 0, 8, 16, 1024, Integer.MAX_VALUE}) {
            CHECKS.due("capacity() of new StepMap(" + half + ")", new LimitedMap(half).capacity(), 8);
        }
    }

    /** The new table's, not the old one's: from the call on that doubles or halves. */
    private static void theCapacityIsTheNewTables() {
        LimitedMap x = new LimitedMap(1024);
        Maps.putHomes(x, 0, 5);
        CHECKS.due("capacity() with five keys", x.capacity(), 8);
        x.put(Keys.of(5), 5);
        CHECKS.due("capacity() with six keys, all in the old table", x.capacity(), 16);
        CHECKS.due("slot of one of them", x.slot(Keys.of(5)), 2005);
        for (int home = 0; home < 4; home++) {
            CHECKS.due("capacity() with ever fewer keys of 16", x.capacity(), 16);
            x.remove(Keys.of(home));
        }
        CHECKS.due("capacity() with two keys, all in the old table", x.capacity(), 8);
        CHECKS.due("slot of one of them", x.slot(Keys.of(5)), 2005);
    }

    /** "slots before it that had a key are TAKEN (neither empty ..": a search goes on behind them. */
    private static void aSlotBeforeTheCursorThatHadAKeyIsNotEmpty() {
        LimitedMap x = sixOfHomeNought();
        x.put(Keys.of(6), 6);
        CHECKS.due("cursor()", x.cursor(), 4);
        CHECKS.due("slot of the sixth", x.slot(Keys.of(8, 1)), 2005);
        CHECKS.due("has of the sixth", x.has(Keys.of(8, 1)), true);
        CHECKS.due("lastWork(): 1 in the new table, 0 to 5 in the old", x.lastWork(), 1 + 6);
        CHECKS.due("has of none", x.has(Keys.of(8, 2)), false);
        CHECKS.due("lastWork(): 1 in the new table, 0 to 6 in the old", x.lastWork(), 1 + 7);
    }

    /** ".. nor is there a key in them)": what was moved and then removed is nowhere. */
    private static void aSlotBeforeTheCursorThatHadAKeyHasItNoMore() {
        LimitedMap x = Maps.grownTo(32);
        int k = Keys.of(2);
        x.put(Keys.of(20), 20);
        CHECKS.due("cursor()", x.cursor(), 4);
        CHECKS.due("slot when moved", x.slot(k), 2);
        CHECKS.due("size() when moved", x.size(), 13);
        CHECKS.due("remove", x.remove(k), true);
        CHECKS.due("cursor()", x.cursor(), 8);
        CHECKS.due("slot", x.slot(k), -1);
        CHECKS.due("has", x.has(k), false);
        CHECKS.due("get", x.get(k), 0);
        CHECKS.due("remove again", x.remove(k), false);
        CHECKS.due("size()", x.size(), 12);
        CHECKS.due("put again", x.put(k, 9), 0);
        CHECKS.due("size() when put again", x.size(), 13);
        CHECKS.due("slot when put again", x.slot(k), 2);
    }

    /** "that had a key": an empty slot before the cursor ends a search still. */
    private static void anEmptySlotBeforeTheCursorStaysEmpty() {
        LimitedMap x = new LimitedMap(64);
        Maps.putHomes(x, 1, 6);
        x.put(Keys.of(7), 7);
        CHECKS.due("cursor()", x.cursor(), 4);
        CHECKS.due("has of old home 0", x.has(Keys.of(8)), false);
        CHECKS.due("lastWork(): 1 in each table", x.lastWork(), 2);
        CHECKS.due("has of old home 1", x.has(Keys.of(9)), false);
        CHECKS.due("lastWork(): 1 in the new table, 1 to 7 in the old", x.lastWork(), 1 + 7);
    }

    /** "so are slots of the old table whose key was removed": the slot is not empty, and no key comes up. */
    private static void aSlotOfTheOldTableWhoseKeyWasRemovedIsTaken() {
        LimitedMap x = sixOfHomeNought();
        int fifth = Keys.of(8, 0);
        int sixth = Keys.of(8, 1);
        CHECKS.due("remove", x.remove(fifth), true);
        CHECKS.due("cursor()", x.cursor(), 4);
        CHECKS.due("slot of the removed", x.slot(fifth), -1);
        CHECKS.due("slot of the key behind it", x.slot(sixth), 2005);
        CHECKS.due("has of the key behind it", x.has(sixth), true);
        CHECKS.due("lastWork(): 1 in the new table, 0 to 5 in the old", x.lastWork(), 1 + 6);
        CHECKS.due("has of the removed", x.has(fifth), false);
        CHECKS.due("lastWork(): 1 in the new table, 0 to 6 in the old", x.lastWork(), 1 + 7);
        CHECKS.due("put of the removed", x.put(fifth, 7), 0);
        CHECKS.due("slot when put again", x.slot(fifth), 8);
        CHECKS.due("slot of the other, moved behind it", x.slot(sixth), 9);
    }

    /** Doubled to 16: the old slots 0 to 5 have keys of home 0 of 8; the last two are of home 8 of 16. */
    private static LimitedMap sixOfHomeNought() {
        LimitedMap x = new LimitedMap(64);
        for (int nth = 0; nth < 4; nth++) {
            x.put(Keys.of(0, nth), nth);
        }
        x.put(Keys.of(8, 0), 4);
        x.put(Keys.of(8, 1), 5);
        return x;
    }
}
