/** Promise 4: has. */
public final class HasTest {
    private static final Checks CHECKS = new Checks("HasTest");

    public static void main(String[] args) {
        LimitedMap x = Maps.withFive(64);
        CHECKS.due("has(0), whose value is 0", x.has(0), true);
        CHECKS.due("has(77)", x.has(77), true);
        CHECKS.due("has(27)", x.has(27), false);
        CHECKS.dueState("has", x, 5, 8, -1, 5);
        x.remove(77);
        CHECKS.due("has(77), removed", x.has(77), false);
        CHECKS.due("has(41)", x.has(41), true);

        x = Maps.growing();
        CHECKS.due("has(41), in the old table", x.has(41), true);
        CHECKS.due("has(999), in neither", x.has(999), false);
        CHECKS.dueState("has moves nothing", x, 6, 16, 0, 8);
        x.remove(77);
        CHECKS.due("has(77), removed from the old table", x.has(77), false);
        CHECKS.due("has(27), behind taken slots", x.has(27), true);
        CHECKS.due("lastWork()", x.lastWork(), 6);
        CHECKS.due("has(42), moved", x.has(42), true);

        x = Maps.withFive(8);
        x.put(27, 1);
        CHECKS.due("has(27), refused", x.has(27), false);

        x = Maps.shrinking();
        CHECKS.due("has(23), in the greater old table", x.has(23), true);
        CHECKS.due("has(42), removed before", x.has(42), false);
        anEmptiedTableIsEmptyWhenItComesAgain();
        CHECKS.end();
    }

    private static void anEmptiedTableIsEmptyWhenItComesAgain() {
        LimitedMap x = Maps.grown();
        x.remove(23);
        // Halved with 0 and 42: the new table once had 23, 77, 41 and 27.
        for (int k : new int[] {23, 77, 41, 27}) {
            CHECKS.due("has(" + k + ") after halving", x.has(k), false);
        }
    }
}
