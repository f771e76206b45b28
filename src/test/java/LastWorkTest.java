/** Promise 9: lastWork. */
public final class LastWorkTest {
    private static final Checks CHECKS = new Checks("LastWorkTest");

    public static void main(String[] args) {
        beforeAny();
        ofLookups();
        ofARefusedPut();
        onlyTheLatestCallCounts();
        ofAWholeMigration();
        CHECKS.end();
    }

    private static void beforeAny() {
        LimitedMap x = new LimitedMap(64);
        x.slot(5);
        x.size();
        x.cursor();
        CHECKS.due("lastWork() before any", x.lastWork(), 0);
    }

    private static void ofLookups() {
        LimitedMap x = new LimitedMap(64);
        x.put(0, 1);
        CHECKS.due("put at home", x.lastWork(), 1);
        x.put(23, 1);
        CHECKS.due("put behind one", x.lastWork(), 2);
        x.get(27);
        CHECKS.due("get of no key", x.lastWork(), 3);
        x.get(0);
        CHECKS.due("get at home", x.lastWork(), 1);
        x.has(23);
        CHECKS.due("has", x.lastWork(), 2);
        x.has(41);
        CHECKS.due("has at an empty home", x.lastWork(), 1);
        x.put(23, 5);
        CHECKS.due("put of a known key", x.lastWork(), 2);
        x.remove(41);
        CHECKS.due("remove of no key", x.lastWork(), 1);
        x.remove(23);
        CHECKS.due("remove", x.lastWork(), 3);

        x = Maps.growing();
        CHECKS.due("put that makes it double", x.lastWork(), 5);
        x.get(0);
        CHECKS.due("get in both tables", x.lastWork(), 2);
        x.has(999);
        CHECKS.due("has in neither", x.lastWork(), 8);
        x.put(42, 9);
        CHECKS.due("put of an old table's key", x.lastWork(), 3);
        x.put(46, 1);
        x.get(0);
        CHECKS.due("get in the new table alone", x.lastWork(), 1);
    }

    private static void ofARefusedPut() {
        LimitedMap x = Maps.withFive(8);
        x.get(0);
        x.put(27, 1);
        CHECKS.due("refused put", x.lastWork(), 5);
        x.put(22, 1);
        CHECKS.due("refused put at an empty home", x.lastWork(), 1);
    }

    private static void onlyTheLatestCallCounts() {
        LimitedMap x = Maps.withFive(64);
        x.get(27);
        x.slot(0);
        x.slot(27);
        x.size();
        x.capacity();
        x.migrating();
        x.cursor();
        CHECKS.due("lastWork() after calls that are no work", x.lastWork(), 5);
        CHECKS.due("lastWork() again", x.lastWork(), 5);
    }

    /** From sixteen slots with 0 in 0 and 23 in 1 to eight, step by step. */
    private static void ofAWholeMigration() {
        LimitedMap x = Maps.shrinking();
        CHECKS.due("remove that makes it halve", x.lastWork(), 2);
        x.put(46, 5);
        CHECKS.due("put(46, 5): 1 + 2, 4 moved, 1 + 3 for their keys", x.lastWork(), 11);
        x.put(77, 1);
        CHECKS.due("put(77, 1): 2 + 1, 4 moved", x.lastWork(), 7);
        x.remove(999);
        CHECKS.due("remove(999): 5 + 3", x.lastWork(), 8);
        x.put(41, 1);
        CHECKS.due("put(41, 1): 1 + 1, 4 moved", x.lastWork(), 6);
        x.put(27, 1);
        CHECKS.due("put(27, 1): 5 + 1, 4 moved", x.lastWork(), 10);
    }
}
