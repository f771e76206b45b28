/** Promise 11: cursor. */
public final class CursorTest {
    private static final Checks CHECKS = new Checks("CursorTest");

    public static void main(String[] args) {
        LimitedMap x = Maps.withFive(64);
        CHECKS.due("cursor() with 5 keys of 8", x.cursor(), -1);
        x.put(27, 1);
        CHECKS.due("cursor() with 6 keys of 8", x.cursor(), 0);
        x.get(0);
        x.has(0);
        x.put(0, 1);
        x.remove(999);
        x.slot(0);
        CHECKS.due("cursor() after calls that move nothing", x.cursor(), 0);
        x.put(46, 1);
        CHECKS.due("cursor() after a put of a key more", x.cursor(), 4);
        x.remove(46);
        CHECKS.due("cursor() behind the last slot", x.cursor(), -1);

        x = new LimitedMap(1024);
        for (int k = 0; k < 96; k++) {
            x.put(k, k);
        }
        for (int at = 0; at < 128; at += 4) {
            CHECKS.due("cursor() on its way through 128 slots", x.cursor(), at);
            if (at % 8 == 0) {
                x.put(1000 + at, 1);
            } else {
                x.remove(at / 2);
            }
        }
        CHECKS.due("cursor() behind 128 slots", x.cursor(), -1);

        x = Maps.withFive(8);
        x.put(27, 1);
        CHECKS.due("cursor() after a refused put", x.cursor(), -1);
        CHECKS.end();
    }
}
