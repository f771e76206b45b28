/** Promise 3: get. */
public final class GetTest {
    private static final Checks CHECKS = new Checks("GetTest");

    public static void main(String[] args) {
        LimitedMap x = Maps.withFive(64);
        CHECKS.due("get(77)", x.get(77), 770);
        CHECKS.due("get(0)", x.get(0), 0);
        CHECKS.due("get(27), which is not there", x.get(27), 0);
        CHECKS.dueState("get", x, 5, 8, -1, 5);
        x.remove(77);
        CHECKS.due("get(77), removed", x.get(77), 0);
        x.put(77, 4);
        CHECKS.due("get(77), put again", x.get(77), 4);

        x = Maps.growing();
        CHECKS.due("get(41), in the old table", x.get(41), 410);
        CHECKS.due("get(999), in neither", x.get(999), 0);
        CHECKS.dueState("get moves nothing", x, 6, 16, 0, 8);
        x.remove(77);
        CHECKS.due("get(23), moved", x.get(23), 230);
        CHECKS.due("get(27), not yet moved", x.get(27), 270);
        CHECKS.due("get(77), removed from the old table", x.get(77), 0);
        CHECKS.due("cursor()", x.cursor(), 4);
        CHECKS.due("get(0), a value of 0", x.get(0), 0);

        x = Maps.shrinking();
        x.put(46, 5);
        CHECKS.due("get(46)", x.get(46), 5);
        CHECKS.due("get(23)", x.get(23), 230);
        CHECKS.due("get(42)", x.get(42), 0);
        manyKeysKeepTheirValues();
        CHECKS.end();
    }

    private static void manyKeysKeepTheirValues() {
        LimitedMap x = Maps.counted(1024, 200);
        for (int k = 0; k < 200; k++) {
            CHECKS.due("get(" + k + ") of 200 keys", x.get(k), k);
        }
    }
}
