/** Promise 1: what is in a new object, and what HALF comes from which argument. */
public final class NewObjectTest {
    private static final Checks CHECKS = new Checks("NewObjectTest");

    public static void main(String[] args) {
        for (int half : new int[] {Integer.MIN_VALUE, -1, 0, 8, 64, 1024, Integer.MAX_VALUE}) {
            nothingIsInIt(half);
        }
        for (int half : new int[] {Integer.MIN_VALUE, -1024, -5, -1, 0, 1, 4, 7, 8, 9, 15}) {
            halfIs(half, 8);
        }
        for (int power = 16; power <= 512; power *= 2) {
            halfIs(power - 1, power / 2);
            halfIs(power, power);
            halfIs(power + 1, power);
            halfIs(power + power / 2, power);
        }
        halfIs(1023, 512);
        // With 512 calls no object can be filled beyond three quarters of 1024: it refuses nothing.
        for (int half : new int[] {1024, 1025, 2047, 2048, 5000, 1 << 30, Integer.MAX_VALUE}) {
            halfIsTheGreatest(half);
        }
        objectsShareNothing();
        CHECKS.end();
    }

    private static void nothingIsInIt(int half) {
        LimitedMap x = new LimitedMap(half);
        CHECKS.dueState("new StepMap(" + half + ")", x, 0, 8, -1, 0);
        for (int k : new int[] {0, 1, -1, Integer.MIN_VALUE, Integer.MAX_VALUE, StepMap.FULL}) {
            CHECKS.due("slot(" + k + ")", x.slot(k), -1);
            CHECKS.due("has(" + k + ")", x.has(k), false);
            CHECKS.due("get(" + k + ")", x.get(k), 0);
            CHECKS.due("remove(" + k + ")", x.remove(k), false);
        }
    }

    private static void halfIs(int half, int want) {
        LimitedMap x = new LimitedMap(half);
        int taken = 0;
        while (taken < 500 && x.put(taken, 1) == 0) {
            taken++;
        }
        CHECKS.due("keys taken by new StepMap(" + half + ")", taken, want / 4 * 3 - 1);
        CHECKS.due("capacity() of new StepMap(" + half + ") when full", x.capacity(), want);
    }

    private static void halfIsTheGreatest(int half) {
        LimitedMap x = new LimitedMap(half);
        for (int k = 0; k < 511; k++) {
            CHECKS.due("new StepMap(" + half + "): put(" + k + ", 1)", x.put(k, 1), 0);
        }
        CHECKS.due("capacity() of new StepMap(" + half + ") with 511 keys", x.capacity(), 1024);
    }

    private static void objectsShareNothing() {
        LimitedMap one = Maps.withFive(64);
        LimitedMap other = new LimitedMap(64);
        CHECKS.dueState("another object", other, 0, 8, -1, 0);
        other.put(0, 7);
        CHECKS.due("get(0) of the first", one.get(0), 0);
        CHECKS.due("get(23) of the first", one.get(23), 230);
        CHECKS.due("get(23) of the other", other.get(23), 0);
    }
}
