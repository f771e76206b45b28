/** The document's Terms: THE WORK; and what promises 9 and 10 say of it. */
public final class WorkTermsTest {
    private static final Checks CHECKS = new Checks("WorkTermsTest");

    public static void main(String[] args) {
        noughtBeforeAny();
        eachOfTheFourCallsHasItsOwn();
        aRefusedPutHasWorkToo();
        theLongestSearch();
        theOtherCallsHaveNone();
        slotHasNoneWhileItIsMigrating();
        CHECKS.end();
    }

    /** "0 before any": calls of another kind are none of them. */
    private static void noughtBeforeAny() {
        CHECKS.due("lastWork() as the first call", new LimitedMap(64).lastWork(), 0);
        LimitedMap x = new LimitedMap(64);
        x.slot(0);
        x.size();
        x.capacity();
        x.migrating();
        x.cursor();
        x.lastWork();
        CHECKS.due("lastWork() before any put, get, has or remove", x.lastWork(), 0);
    }

    /** "of the latest put, get, has or remove": of one alone, be it found or not. */
    private static void eachOfTheFourCallsHasItsOwn() {
        for (int there = 0; there < 2; there++) {
            // Behind three others: 4 visits to find it, and 4 to find that it is not there.
            LimitedMap x = new LimitedMap(64);
            for (int nth = 0; nth < 3 + there; nth++) {
                x.put(Keys.of(1, nth), nth);
            }
            int k = Keys.of(1, 3);
            x.has(Keys.of(0));
            CHECKS.due("lastWork() at an empty home", x.lastWork(), 1);
            x.get(k);
            CHECKS.due("lastWork() of get", x.lastWork(), 4);
            x.has(Keys.of(0));
            x.has(k);
            CHECKS.due("lastWork() of has", x.lastWork(), 4);
            x.has(Keys.of(0));
            x.put(k, 1);
            CHECKS.due("lastWork() of put", x.lastWork(), 4);
            x.has(Keys.of(0));
            x.remove(k);
            CHECKS.due("lastWork() of remove", x.lastWork(), 5);
            x.remove(k);
            CHECKS.due("lastWork() of remove of none", x.lastWork(), 4);
        }
    }

    /** "(also in a put that is refused)". */
    private static void aRefusedPutHasWorkToo() {
        LimitedMap x = new LimitedMap(8);
        for (int nth = 0; nth < 5; nth++) {
            x.put(Keys.of(3, nth), nth);
        }
        x.get(Keys.of(3, 1));
        CHECKS.due("lastWork() of get", x.lastWork(), 2);
        for (int home = 0; home < 8; home++) {
            int k = Keys.of(home, 5);
            CHECKS.due("put", x.put(k, 1), StepMap.FULL);
            CHECKS.due("lastWork() of a refused put, home " + home, x.lastWork(), home < 3 ? 1 : 9 - home);
        }
    }

    /** Behind all keys of a map that is full, as long a search as 512 calls can make. */
    private static void theLongestSearch() {
        LimitedMap x = new LimitedMap(512);
        Maps.putHomes(x, 200, 383);
        CHECKS.due("capacity()", x.capacity(), 512);
        int k = Keys.of(200, 1);
        CHECKS.due("put behind 383 keys", x.put(k, 1), StepMap.FULL);
        CHECKS.due("lastWork() of a refused put", x.lastWork(), 384);
        CHECKS.due("has behind 383 keys", x.has(k), false);
        CHECKS.due("lastWork() of has", x.lastWork(), 384);
        // All stay, for each is at home.
        CHECKS.due("remove of the first", x.remove(Keys.of(200)), true);
        CHECKS.due("lastWork() of remove", x.lastWork(), 1 + 383);
    }

    /** "(No work of it.)", and lastWork is of put, get, has and remove alone. */
    private static void theOtherCallsHaveNone() {
        LimitedMap x = new LimitedMap(8);
        for (int nth = 0; nth < 3; nth++) {
            x.put(Keys.of(7, nth), nth);
        }
        x.slot(Keys.of(7, 1));
        CHECKS.due("lastWork() behind slot of a key", x.lastWork(), 3);
        x.slot(Keys.of(7, 3));
        CHECKS.due("lastWork() behind slot of none", x.lastWork(), 3);
        x.size();
        x.capacity();
        x.migrating();
        x.cursor();
        CHECKS.due("lastWork() behind the others", x.lastWork(), 3);
        CHECKS.due("lastWork() behind itself", x.lastWork(), 3);
    }

    private static void slotHasNoneWhileItIsMigrating() {
        LimitedMap x = Maps.grownTo(32);
        x.put(Keys.of(20), 20);
        // New: 20. Old: 4 to 13, which have keys, and 14. Slots 0 to 3, with two keys that come home.
        int work = 1 + 11 + 4 + 2;
        CHECKS.due("lastWork() of put", x.lastWork(), work);
        for (int home : new int[] {2, 3, 4, 13, 14, 20, 21}) {
            x.slot(Keys.of(home));
            CHECKS.due("lastWork() behind slot, home " + home, x.lastWork(), work);
        }
    }
}
