/** Promise 2: put. */
public final class PutTest {
    private static final Checks CHECKS = new Checks("PutTest");

    public static void main(String[] args) {
        aKeyMoreComesIntoTheFirstEmptySlot();
        aKnownKeyKeepsItsSlot();
        aKnownKeyOfTheOldTableStaysThere();
        aKeyMoreComesIntoTheNewTable();
        aFullMapRefusesAKeyMoreAndNothingElse();
        aRefusedKeyMayComeWhenThereIsRoom();
        everyKeyAndValueIsOrdinary();
        theConstant();
        CHECKS.end();
    }

    private static void aKeyMoreComesIntoTheFirstEmptySlot() {
        LimitedMap x = new LimitedMap(64);
        int[] keys = {0, 23, 42, 77, 41};
        int[] slots = {0, 1, 2, 3, 5};
        for (int i = 0; i < keys.length; i++) {
            CHECKS.due("put(" + keys[i] + ", 1)", x.put(keys[i], 1), 0);
            CHECKS.due("slot(" + keys[i] + ")", x.slot(keys[i]), slots[i]);
            CHECKS.due("size()", x.size(), i + 1);
        }
        x = new LimitedMap(64);
        x.put(1, 1);
        x.put(2, 1);
        CHECKS.due("slot(1), at home", x.slot(1), 7);
        CHECKS.due("slot(2), round the ring", x.slot(2), 0);
    }

    private static void aKnownKeyKeepsItsSlot() {
        LimitedMap x = Maps.withFive(64);
        CHECKS.due("put(42, -3)", x.put(42, -3), 0);
        CHECKS.dueState("put of a known key", x, 5, 8, -1, 2);
        CHECKS.due("slot(42)", x.slot(42), 2);
        CHECKS.due("get(42)", x.get(42), -3);
        CHECKS.due("get(23)", x.get(23), 230);
        CHECKS.due("get(77)", x.get(77), 770);
    }

    private static void aKnownKeyOfTheOldTableStaysThere() {
        LimitedMap x = Maps.growing();
        CHECKS.due("put(42, 9)", x.put(42, 9), 0);
        CHECKS.dueState("put of an old table's key", x, 6, 16, 0, 3);
        CHECKS.due("slot(42)", x.slot(42), 2002);
        CHECKS.due("get(42)", x.get(42), 9);
        x.put(46, 1);
        CHECKS.due("slot(42), moved", x.slot(42), 9);
        CHECKS.due("get(42), moved", x.get(42), 9);
        CHECKS.due("put(42, 8)", x.put(42, 8), 0);
        CHECKS.due("cursor()", x.cursor(), 4);
        CHECKS.due("get(42)", x.get(42), 8);
    }

    private static void aKeyMoreComesIntoTheNewTable() {
        LimitedMap x = Maps.growing();
        CHECKS.due("put(46, 5)", x.put(46, 5), 0);
        CHECKS.due("slot(46)", x.slot(46), 1);
        // It was there before this call's four slots were moved: 23, of home 0, finds slot 1 used.
        CHECKS.due("slot(0)", x.slot(0), 0);
        CHECKS.due("slot(23)", x.slot(23), 2);
        // In the new table: 1. In the old one: 1 to 6, which is empty. Four moved: 4 + 1 + 3 + 1 + 2.
        CHECKS.dueState("put while it is migrating", x, 7, 16, 4, 1 + 6 + 4 + 1 + 3 + 1 + 2);
    }

    private static void aFullMapRefusesAKeyMoreAndNothingElse() {
        LimitedMap x = Maps.withFive(8);
        CHECKS.due("put(27, 1)", x.put(27, 1), -2000000001);
        CHECKS.dueState("a refused put", x, 5, 8, -1, 5);
        CHECKS.due("slot(27)", x.slot(27), -1);
        CHECKS.due("put(21, 1)", x.put(21, 1), -2000000001);
        CHECKS.dueState("a refused put", x, 5, 8, -1, 1);
        int[] keys = {0, 23, 42, 77, 41};
        int[] slots = {0, 1, 2, 3, 5};
        for (int i = 0; i < keys.length; i++) {
            CHECKS.due("slot(" + keys[i] + ")", x.slot(keys[i]), slots[i]);
            CHECKS.due("get(" + keys[i] + ")", x.get(keys[i]), 10 * keys[i]);
            CHECKS.due("put of the known " + keys[i], x.put(keys[i], 3), 0);
            CHECKS.due("get(" + keys[i] + ")", x.get(keys[i]), 3);
        }
        x = Maps.counted(16, 11);
        CHECKS.due("the twelfth key of sixteen slots", x.put(11, 1), -2000000001);
        CHECKS.due("size()", x.size(), 11);
        CHECKS.due("put(10, 2)", x.put(10, 2), 0);
    }

    private static void aRefusedKeyMayComeWhenThereIsRoom() {
        LimitedMap x = Maps.withFive(8);
        x.put(27, 1);
        x.remove(0);
        CHECKS.due("put(27, 1) with room", x.put(27, 1), 0);
        CHECKS.due("get(27)", x.get(27), 1);
        CHECKS.due("put(0, 1) without", x.put(0, 1), -2000000001);
    }

    private static void everyKeyAndValueIsOrdinary() {
        int[] odd = {Integer.MIN_VALUE, Integer.MAX_VALUE, StepMap.FULL, -1, 0};
        LimitedMap x = new LimitedMap(64);
        for (int k : odd) {
            for (int v : odd) {
                CHECKS.due("put(" + k + ", " + v + ")", x.put(k, v), 0);
                CHECKS.due("get(" + k + ")", x.get(k), v);
                CHECKS.due("has(" + k + ")", x.has(k), true);
            }
        }
        CHECKS.due("size()", x.size(), odd.length);
    }

    private static void theConstant() {
        CHECKS.due("FULL", StepMap.FULL, -2000000001);
    }
}
