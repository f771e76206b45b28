/** A StepMap that a test calls 512 times at most: what later calls answer is free, so no test may ask for it. */
final class LimitedMap {
    static final int MOST_CALLS = 512;

    private final StepMap map;
    private int calls;

    LimitedMap(int half) {
        map = new StepMap(half);
    }

    int callsLeft() {
        return MOST_CALLS - calls;
    }

    int put(int k, int v) {
        return called().put(k, v);
    }

    int get(int k) {
        return called().get(k);
    }

    boolean has(int k) {
        return called().has(k);
    }

    boolean remove(int k) {
        return called().remove(k);
    }

    int size() {
        return called().size();
    }

    int capacity() {
        return called().capacity();
    }

    boolean migrating() {
        return called().migrating();
    }

    int lastWork() {
        return called().lastWork();
    }

    int slot(int k) {
        return called().slot(k);
    }

    int cursor() {
        return called().cursor();
    }

    private StepMap called() {
        if (calls == MOST_CALLS) {
            throw new IllegalStateException("a test calls one object more than " + MOST_CALLS + " times");
        }
        calls++;
        return map;
    }
}
