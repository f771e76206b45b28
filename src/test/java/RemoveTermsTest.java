/** The document's Terms: remove, from the old table and from the new one. */
public final class RemoveTermsTest {
    private static final Checks CHECKS = new Checks("RemoveTermsTest");

    public static void main(String[] args) {
        noKeyBehindARemovedOneOfTheOldTableComesUp();
        theOldTablesLastSlotIsTakenToo();
        nothingBehindTheFreeSlot();
        aKeyAtHomeStays();
        aKeyWhoseHomeIsTheFreeSlotComes();
        aKeyWhoseHomeIsBeforeTheFreeSlotComes();
        aKeyWhoseHomeIsJustBehindTheFreeSlotStays();
        theSlotOfAKeyThatCameIsTheFreeOne();
        slotsAreVisitedBehindAKeyThatStays();
        theSearchForKeysEndsAtTheFirstEmptySlot();
        roundTheRing();
        roundTheRingOfEverySize();
        aKeyThatComesKeepsItsValue();
        fromTheNewTableWhileItIsMigrating();
        aKeyThatIsNotThere();
        CHECKS.end();
    }

    /** "from the old table: that slot is taken then": the keys behind it stay, and none is visited for it. */
    private static void noKeyBehindARemovedOneOfTheOldTableComesUp() {
        LimitedMap x = new LimitedMap(64);
        for (int nth = 0; nth < 6; nth++) {
            x.put(Keys.of(8, nth), nth);
        }
        CHECKS.due("remove from slot 4 of the old table", x.remove(Keys.of(8, 4)), true);
        // New: 8. Old: 0 to 4. Slots 0 to 3, whose keys go to 8, 9, 10 and 11.
        CHECKS.dueState("remove", x, 5, 16, 4, 1 + 5 + 4 + (1 + 2 + 3 + 4));
        CHECKS.due("slot of the key behind it", x.slot(Keys.of(8, 5)), 2005);
    }

    /** The same of the last slot, and of the slot at the cursor: each is still visited by the moving. */
    private static void theOldTablesLastSlotIsTakenToo() {
        LimitedMap x = new LimitedMap(64);
        Maps.putHomes(x, 0, 2);
        Maps.putHomes(x, 4, 4);
        CHECKS.due("slot of the last", x.slot(Keys.of(7)), 2007);
        CHECKS.due("remove of the last", x.remove(Keys.of(7)), true);
        // 1 in each table; slots 0 to 3, of which two have a key.
        CHECKS.dueState("remove of the last", x, 5, 16, 4, 2 + 4 + 2);
        CHECKS.due("remove at the cursor", x.remove(Keys.of(4)), true);
        // 1 in each table; slots 4 to 7, of which 5 and 6 have a key.
        CHECKS.dueState("remove at the cursor", x, 4, 16, -1, 2 + 4 + 2);
        CHECKS.due("slot of the last", x.slot(Keys.of(7)), -1);
        CHECKS.due("slot of the one at the cursor", x.slot(Keys.of(4)), -1);
    }

    /** "slots behind it are visited one by one until one is empty": the first is. */
    private static void nothingBehindTheFreeSlot() {
        for (int home = 0; home < 8; home++) {
            dueRemoved("alone in " + home, new int[] {home}, 0, new int[] {-1}, 1 + 1);
        }
    }

    /** "a key whose home is not behind the free slot": this one's is, for it is its own slot. */
    private static void aKeyAtHomeStays() {
        dueRemoved("a key at home", new int[] {0, 1}, 0, new int[] {-1, 1}, 1 + 2);
        dueRemoved("keys at home", new int[] {2, 3, 4, 5}, 0, new int[] {-1, 3, 4, 5}, 1 + 4);
    }

    /** The free slot itself is not behind it. */
    private static void aKeyWhoseHomeIsTheFreeSlotComes() {
        dueRemoved("of the same home", new int[] {0, 0}, 0, new int[] {-1, 0}, 1 + 2);
    }

    /** What is before the free slot is not behind it, on the way to the key. */
    private static void aKeyWhoseHomeIsBeforeTheFreeSlotComes() {
        dueRemoved("the second of three", new int[] {0, 0, 0}, 1, new int[] {0, -1, 1}, 2 + 2);
        dueRemoved("the third of four", new int[] {0, 0, 0, 0}, 2, new int[] {0, 1, -1, 2}, 3 + 2);
        dueRemoved("the last of three", new int[] {0, 0, 0}, 2, new int[] {0, 1, -1}, 3 + 1);
    }

    /** "behind the free slot on the way to it": a key between its home and itself does not change that. */
    private static void aKeyWhoseHomeIsJustBehindTheFreeSlotStays() {
        dueRemoved("two of home 1", new int[] {0, 1, 1}, 0, new int[] {-1, 1, 2}, 1 + 3);
    }

    /** "comes into the free slot, and its slot is the free one": what comes next comes there. */
    private static void theSlotOfAKeyThatCameIsTheFreeOne() {
        dueRemoved("all of one home", new int[] {0, 0, 0, 0, 0}, 0, new int[] {-1, 0, 1, 2, 3}, 1 + 5);
        dueRemoved("homes 0, 0, 1", new int[] {0, 0, 1}, 0, new int[] {-1, 0, 1}, 1 + 3);
        dueRemoved("homes 0, 1, 0, 2", new int[] {0, 1, 0, 2}, 0, new int[] {-1, 1, 0, 2}, 1 + 4);
        dueRemoved("homes 0, 1, 0, 3", new int[] {0, 1, 0, 3}, 0, new int[] {-1, 1, 0, 3}, 1 + 4);
    }

    /** "until one is empty": a key that stays is no end. */
    private static void slotsAreVisitedBehindAKeyThatStays() {
        dueRemoved("homes 0, 1, 2, 0", new int[] {0, 1, 2, 0}, 0, new int[] {-1, 1, 2, 0}, 1 + 4);
        dueRemoved("homes 0, 1, 2, 3, 0", new int[] {0, 1, 2, 3, 0}, 0, new int[] {-1, 1, 2, 3, 0}, 1 + 5);
    }

    /** "until one is empty": that one is visited, and nothing behind it. */
    private static void theSearchForKeysEndsAtTheFirstEmptySlot() {
        dueRemoved("a gap behind one", new int[] {0, 0, 3, 3}, 0, new int[] {-1, 0, 3, 4}, 1 + 2);
    }

    /** "The way" from the free slot to a key may go round the ring. */
    private static void roundTheRing() {
        dueRemoved("homes 7, 7", new int[] {7, 7}, 0, new int[] {-1, 7}, 1 + 2);
        dueRemoved("homes 7, 0", new int[] {7, 0}, 0, new int[] {-1, 0}, 1 + 2);
        dueRemoved("homes 7, 7, 0", new int[] {7, 7, 0}, 0, new int[] {-1, 7, 0}, 1 + 3);
        dueRemoved("homes 7, 7, 7", new int[] {7, 7, 7}, 1, new int[] {7, -1, 0}, 2 + 2);
        dueRemoved("homes 6, 7, 6", new int[] {6, 7, 6}, 0, new int[] {-1, 7, 6}, 1 + 3);
        dueRemoved("homes 6, 7, 7", new int[] {6, 7, 7}, 0, new int[] {-1, 7, 0}, 1 + 3);
        dueRemoved("homes 6, 6, 7", new int[] {6, 6, 7}, 0, new int[] {-1, 6, 7}, 1 + 3);
        dueRemoved("homes 6, 7, 0, 6, 0", new int[] {6, 7, 0, 6, 0}, 0, new int[] {-1, 7, 0, 6, 1}, 1 + 5);
        dueRemoved("homes 7, 0, 1, 7, 7", new int[] {7, 0, 1, 7, 7}, 0, new int[] {-1, 0, 1, 7, 2}, 1 + 5);
        dueRemoved("the empty slot is 0", new int[] {6, 6}, 0, new int[] {-1, 6}, 1 + 2);
    }

    private static void roundTheRingOfEverySize() {
        for (int slots = 8; slots <= 1024; slots *= 2) {
            LimitedMap x = Maps.grownTo(slots);
            int first = Keys.of(slots - 1, 0);
            int second = Keys.of(slots - 1, 1);
            x.put(first, 1);
            x.put(second, 2);
            CHECKS.due("slot before", x.slot(second), 0);
            CHECKS.due("remove from the last of " + slots, x.remove(first), true);
            // From 32 slots on this call moves the old slots 8 to 11, each with a key that comes home.
            CHECKS.due("lastWork()", x.lastWork(), 1 + 2 + (slots > 16 ? 4 + 4 : 0));
            CHECKS.due("slot of the key that came", x.slot(second), slots - 1);
        }
    }

    private static void aKeyThatComesKeepsItsValue() {
        LimitedMap x = new LimitedMap(8);
        for (int nth = 0; nth < 5; nth++) {
            x.put(Keys.of(5, nth), 50 + nth);
        }
        for (int gone = 0; gone < 5; gone++) {
            x.remove(Keys.of(5, gone));
            for (int nth = gone + 1; nth < 5; nth++) {
                CHECKS.due("get of number " + nth, x.get(Keys.of(5, nth)), 50 + nth);
            }
        }
    }

    /** From the new table too it is first the gap that closes, and then four slots are moved. */
    private static void fromTheNewTableWhileItIsMigrating() {
        LimitedMap x = new LimitedMap(64);
        Maps.putHomes(x, 2, 6);
        int first = Keys.of(4, 1);
        int second = Keys.of(4, 2);
        x.put(first, 1);
        CHECKS.due("slot of the key more", x.slot(first), 4);
        CHECKS.due("remove", x.remove(first), true);
        // 1 to find it, 1 that is empty; slots 4 to 7, whose keys come home, the first one into slot 4.
        CHECKS.dueState("remove", x, 6, 16, -1, 1 + 1 + 4 + 4);
        CHECKS.due("slot of the key moved behind it", x.slot(Keys.of(4)), 4);
        CHECKS.due("has of what was never there", x.has(second), false);
    }

    /** "or a remove of one": a remove of none changes nothing, in whichever state. */
    private static void aKeyThatIsNotThere() {
        LimitedMap x = new LimitedMap(8);
        CHECKS.due("remove from a new object", x.remove(0), false);
        CHECKS.dueState("remove from a new object", x, 0, 8, -1, 1);
        x = Maps.grownTo(16);
        for (int home = 8; home < 16; home++) {
            CHECKS.due("remove of none", x.remove(Keys.of(home, 1)), false);
            // 1 in the new table; in the old one the keys in 2 to 7 from its home on, and slot 0.
            int oldHome = home - 8;
            CHECKS.dueState("remove of none", x, 6, 16, 0, 1 + (oldHome < 2 ? 1 : 9 - oldHome));
        }
    }

    /** Puts keys of these homes of 8, removes one of them, and asks where each is then (-1 is nowhere). */
    private static void dueRemoved(String name, int[] homes, int removed, int[] slots, int work) {
        LimitedMap x = new LimitedMap(8);
        for (int i = 0; i < homes.length; i++) {
            x.put(Keys.of(homes[i], i), i);
        }
        CHECKS.due(name + ": remove", x.remove(Keys.of(homes[removed], removed)), true);
        CHECKS.dueState(name, x, homes.length - 1, 8, -1, work);
        for (int i = 0; i < homes.length; i++) {
            CHECKS.due(name + ": slot of number " + i, x.slot(Keys.of(homes[i], i)), slots[i]);
        }
    }
}
