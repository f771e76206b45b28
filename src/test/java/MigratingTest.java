/** Promise 8: migrating. */
public final class MigratingTest {
    private static final Checks CHECKS = new Checks("MigratingTest");

    public static void main(String[] args) {
        LimitedMap x = Maps.withFive(64);
        CHECKS.due("migrating() with 5 keys of 8", x.migrating(), false);
        x.put(27, 1);
        CHECKS.due("migrating() with 6 keys of 8", x.migrating(), true);
        x.get(0);
        x.has(0);
        x.put(0, 1);
        x.remove(999);
        CHECKS.due("migrating() after calls that move nothing", x.migrating(), true);
        x.put(46, 1);
        CHECKS.due("migrating() after four slots of eight", x.migrating(), true);
        x.put(21, 1);
        CHECKS.due("migrating() after eight slots of eight", x.migrating(), false);

        x = Maps.shrinking();
        CHECKS.due("migrating() when it shrinks", x.migrating(), true);
        for (int k = 100; k < 103; k++) {
            x.put(k, 1);
            CHECKS.due("migrating() before all sixteen slots are moved", x.migrating(), true);
        }
        x.remove(100);
        CHECKS.due("migrating() after sixteen slots of sixteen", x.migrating(), false);

        x = Maps.withFive(8);
        x.put(27, 1);
        CHECKS.due("migrating() after a refused put", x.migrating(), false);
        CHECKS.end();
    }
}
