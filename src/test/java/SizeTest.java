/** Promise 6: size. */
public final class SizeTest {
    private static final Checks CHECKS = new Checks("SizeTest");

    public static void main(String[] args) {
        LimitedMap x = new LimitedMap(1024);
        for (int k = 0; k < 100; k++) {
            x.put(k, k);
            CHECKS.due("size() with key " + k, x.size(), k + 1);
        }
        x.put(7, 1);
        x.get(300);
        x.has(7);
        x.remove(300);
        x.slot(7);
        CHECKS.due("size() when no key came or went", x.size(), 100);
        for (int k = 0; k < 100; k++) {
            x.remove(k);
            CHECKS.due("size() without key " + k, x.size(), 99 - k);
        }
        x.remove(0);
        CHECKS.due("size() of nothing", x.size(), 0);

        x = Maps.growing();
        CHECKS.due("size(), all in the old table", x.size(), 6);
        x.remove(77);
        CHECKS.due("size(), in both tables", x.size(), 5);
        x.put(27, 1);
        CHECKS.due("size() after a known key", x.size(), 5);

        x = Maps.withFive(8);
        x.put(27, 1);
        CHECKS.due("size() after a refused put", x.size(), 5);
        CHECKS.end();
    }
}
