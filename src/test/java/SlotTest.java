/** Promise 10: slot. */
public final class SlotTest {
    private static final Checks CHECKS = new Checks("SlotTest");

    public static void main(String[] args) {
        int[] keys = {0, 23, 42, 77, 41, 27, 999};
        LimitedMap x = Maps.withFive(64);
        due(x, keys, new int[] {0, 1, 2, 3, 5, -1, -1}, "five keys");
        x.put(27, 1);
        due(x, keys, new int[] {2000, 2001, 2002, 2003, 2005, 2004, -1}, "doubled");
        x.remove(77);
        due(x, keys, new int[] {0, 1, 9, -1, 2005, 2004, -1}, "half moved");
        x.remove(999);
        due(x, keys, new int[] {0, 1, 9, -1, 2005, 2004, -1}, "half moved still");
        x.remove(27);
        due(x, keys, new int[] {0, 1, 9, -1, 13, -1, -1}, "moved");

        x = Maps.shrinking();
        due(x, keys, new int[] {2000, 2001, -1, -1, -1, -1, -1}, "halved");
        x.put(46, 5);
        due(x, keys, new int[] {0, 2, -1, -1, -1, -1, -1}, "halved and moved");
        CHECKS.due("slot(46)", x.slot(46), 1);
        homesOfManyKeys();
        CHECKS.end();
    }

    private static void due(LimitedMap x, int[] keys, int[] slots, String when) {
        int work = x.lastWork();
        for (int i = 0; i < keys.length; i++) {
            CHECKS.due(when + ": slot(" + keys[i] + ")", x.slot(keys[i]), slots[i]);
        }
        CHECKS.due(when + ": lastWork() after slot", x.lastWork(), work);
    }

    /** A key alone is at home; its home is reckoned here in longs, none of them below 0. */
    private static void homesOfManyKeys() {
        for (int i = -300; i <= 300; i++) {
            int k = i * 7_158_279;
            LimitedMap x = new LimitedMap(8);
            x.put(k, 1);
            long product = Math.floorMod(k * 0x9E3779B1L, 0x100000000L);
            long mixed = product ^ (product / 0x8000L);
            CHECKS.due("slot(" + k + ") alone", x.slot(k), mixed % 8);
        }
    }
}
