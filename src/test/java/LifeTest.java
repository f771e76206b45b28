/** "An object is used for at most 512 calls after it has been made": the last of them answers like the first. */
public final class LifeTest {
    private static final Checks CHECKS = new Checks("LifeTest");

    public static void main(String[] args) {
        thePutThatEndsAMigrationMayBeTheLast();
        everyOtherCallMayBeTheLast();
        theLastMayBeRefused();
        allMayBeOfOneKind();
        CHECKS.end();
    }

    /** 384 keys double 512 slots, and 128 calls more move them: 512 calls in all. */
    private static void thePutThatEndsAMigrationMayBeTheLast() {
        LimitedMap x = withKeys(511);
        CHECKS.due("the 512th call: put", x.put(Keys.of(511), 511), 0);
        CHECKS.due("calls left", x.callsLeft(), 0);
    }

    private static void everyOtherCallMayBeTheLast() {
        CHECKS.due("the 512th call: put of a known key", withKeys(511).put(Keys.of(510), 1), 0);
        CHECKS.due("the 512th call: get", withKeys(511).get(Keys.of(510)), 510);
        CHECKS.due("the 512th call: get of none", withKeys(511).get(Keys.of(511)), 0);
        CHECKS.due("the 512th call: has", withKeys(511).has(Keys.of(0)), true);
        CHECKS.due("the 512th call: has of none", withKeys(511).has(Keys.of(511)), false);
        CHECKS.due("the 512th call: remove", withKeys(511).remove(Keys.of(510)), true);
        CHECKS.due("the 512th call: remove of none", withKeys(511).remove(Keys.of(511)), false);
        CHECKS.due("the 512th call: size", withKeys(511).size(), 511);
        CHECKS.due("the 512th call: capacity", withKeys(511).capacity(), 1024);
        CHECKS.due("the 512th call: migrating", withKeys(511).migrating(), true);
        // 1 in each table, and the old slots 504 to 507, which had no key.
        CHECKS.due("the 512th call: lastWork", withKeys(511).lastWork(), 2 + 4);
        CHECKS.due("the 512th call: slot", withKeys(511).slot(Keys.of(510)), 510);
        CHECKS.due("the 512th call: slot of a moved key", withKeys(511).slot(Keys.of(383)), 383);
        CHECKS.due("the 512th call: cursor", withKeys(511).cursor(), 508);
    }

    private static void theLastMayBeRefused() {
        LimitedMap x = new LimitedMap(8);
        Maps.putHomes(x, 0, 5);
        while (x.callsLeft() > 1) {
            CHECKS.due("put", x.put(Keys.of(5), 5), StepMap.FULL);
        }
        CHECKS.due("the 512th call: put", x.put(Keys.of(5), 5), StepMap.FULL);
    }

    private static void allMayBeOfOneKind() {
        LimitedMap x = new LimitedMap(8);
        while (x.callsLeft() > 0) {
            CHECKS.due("remove from a new object", x.remove(x.callsLeft()), false);
        }
        x = new LimitedMap(8);
        while (x.callsLeft() > 0) {
            CHECKS.due("put of one key", x.put(7, x.callsLeft()), 0);
        }
        x = new LimitedMap(8);
        while (x.callsLeft() > 0) {
            CHECKS.due("cursor()", x.cursor(), -1);
        }
    }

    /** Keys.of(0), Keys.of(1), ..: as many calls as keys. */
    private static LimitedMap withKeys(int count) {
        LimitedMap x = new LimitedMap(1024);
        Maps.putHomes(x, 0, count);
        return x;
    }
}
