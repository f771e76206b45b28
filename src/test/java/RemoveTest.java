/** Promise 5: remove. */
public final class RemoveTest {
    private static final Checks CHECKS = new Checks("RemoveTest");

    public static void main(String[] args) {
        whetherItWasThere();
        keysBehindCloseTheGap();
        aKeyBeyondTheFreeSlotStays();
        aKeyMayMoveOverOneThatStays();
        theGapClosesRoundTheRing();
        anOldTablesSlotIsTaken();
        fromTheNewTableWhileItIsMigrating();
        aMovedKeyIsNotLeftInTheOldTable();
        CHECKS.end();
    }

    private static void whetherItWasThere() {
        LimitedMap x = Maps.withFive(64);
        CHECKS.due("remove(27)", x.remove(27), false);
        CHECKS.dueState("remove of a key that is not there", x, 5, 8, -1, 5);
        CHECKS.due("remove(41)", x.remove(41), true);
        CHECKS.dueState("remove", x, 4, 8, -1, 2);
        CHECKS.due("remove(41) again", x.remove(41), false);
        CHECKS.due("has(41)", x.has(41), false);
        x = Maps.growing();
        CHECKS.due("remove(999)", x.remove(999), false);
        CHECKS.dueState("remove of no key moves nothing", x, 6, 16, 0, 8);
        x = new LimitedMap(8);
        CHECKS.due("remove(0) of nothing", x.remove(0), false);
        CHECKS.dueState("remove of nothing", x, 0, 8, -1, 1);
    }

    private static void keysBehindCloseTheGap() {
        LimitedMap x = Maps.withFive(64);
        CHECKS.due("remove(23)", x.remove(23), true);
        // Visited: 0 and 1 to find it, then 2 and 3, whose keys move up, and 4, which is empty.
        CHECKS.dueState("remove(23)", x, 4, 8, -1, 5);
        dueSlots(x, new int[] {0, 23, 42, 77, 41}, new int[] {0, -1, 1, 2, 5});
        CHECKS.due("get(42)", x.get(42), 420);
        CHECKS.due("get(77)", x.get(77), 770);
    }

    private static void aKeyBeyondTheFreeSlotStays() {
        LimitedMap x = new LimitedMap(64);
        x.put(0, 1);
        x.put(42, 2);
        x.put(77, 3);
        CHECKS.due("remove(0)", x.remove(0), true);
        CHECKS.due("lastWork()", x.lastWork(), 4);
        dueSlots(x, new int[] {0, 42, 77}, new int[] {-1, 1, 2});
    }

    private static void aKeyMayMoveOverOneThatStays() {
        LimitedMap x = new LimitedMap(64);
        x.put(0, 1);
        x.put(42, 2);
        x.put(23, 3);
        CHECKS.due("remove(0)", x.remove(0), true);
        CHECKS.due("lastWork()", x.lastWork(), 4);
        dueSlots(x, new int[] {0, 42, 23}, new int[] {-1, 1, 0});
        CHECKS.due("get(23)", x.get(23), 3);
    }

    private static void theGapClosesRoundTheRing() {
        LimitedMap x = new LimitedMap(64);
        x.put(1, 1);
        x.put(2, 2);
        x.put(0, 3);
        dueSlots(x, new int[] {1, 2, 0}, new int[] {7, 0, 1});
        CHECKS.due("remove(1)", x.remove(1), true);
        CHECKS.due("lastWork()", x.lastWork(), 4);
        dueSlots(x, new int[] {1, 2, 0}, new int[] {-1, 7, 0});
        CHECKS.due("remove(2)", x.remove(2), true);
        CHECKS.due("lastWork()", x.lastWork(), 3);
        dueSlots(x, new int[] {2, 0}, new int[] {-1, 0});
    }

    private static void anOldTablesSlotIsTaken() {
        LimitedMap x = Maps.growing();
        CHECKS.due("remove(77)", x.remove(77), true);
        // 1 + 2 to find it, 4 slots moved, and for 0, 23 and 42 of these 1 + 2 + 1; 77's slot is only visited.
        CHECKS.dueState("remove(77)", x, 5, 16, 4, 11);
        dueSlots(x, new int[] {0, 23, 42, 77, 27, 41}, new int[] {0, 1, 9, -1, 2004, 2005});
        CHECKS.due("remove(77) again", x.remove(77), false);
        CHECKS.due("cursor()", x.cursor(), 4);
        CHECKS.due("remove(27)", x.remove(27), true);
        CHECKS.dueState("remove(27)", x, 4, 16, -1, 11);
        dueSlots(x, new int[] {0, 23, 42, 77, 27, 41}, new int[] {0, 1, 9, -1, -1, 13});
    }

    private static void fromTheNewTableWhileItIsMigrating() {
        LimitedMap x = Maps.growing();
        x.remove(77);
        CHECKS.due("remove(0)", x.remove(0), true);
        // 1 to find it; 1, whose key moves up, and 2; 4 moved slots, of which 27 and 41 take 1 each.
        CHECKS.dueState("remove(0)", x, 4, 16, -1, 1 + 2 + 4 + 1 + 1);
        dueSlots(x, new int[] {0, 23, 42, 27, 41}, new int[] {-1, 0, 9, 8, 13});
    }

    private static void aMovedKeyIsNotLeftInTheOldTable() {
        LimitedMap x = Maps.shrinking();
        x.put(46, 1);
        CHECKS.due("slot(23), moved", x.slot(23), 2);
        CHECKS.due("remove(23)", x.remove(23), true);
        CHECKS.dueState("remove(23)", x, 2, 8, 8, 3 + 1 + 4);
        CHECKS.due("slot(23)", x.slot(23), -1);
        CHECKS.due("has(23)", x.has(23), false);
        CHECKS.due("lastWork() over two taken slots", x.lastWork(), 3 + 3);
        CHECKS.due("remove(23) again", x.remove(23), false);
    }

    private static void dueSlots(LimitedMap x, int[] keys, int[] slots) {
        for (int i = 0; i < keys.length; i++) {
            CHECKS.due("slot(" + keys[i] + ")", x.slot(keys[i]), slots[i]);
        }
    }
}
