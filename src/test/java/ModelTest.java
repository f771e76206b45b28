/**
 * All promises at once: runs of 512 calls, the answers compared with PlainModel's. The runs come
 * from a fixed row of numbers, so that they are the same each time.
 */
public final class ModelTest {
    private static final Checks CHECKS = new Checks("ModelTest");
    private static final int CALLS_A_VIEW = 7;

    private long seed;

    private ModelTest(long seed) {
        this.seed = seed;
    }

    public static void main(String[] args) {
        int[] halves = {-5, 8, 16, 17, 32, 64, 128, 256, 1024, 5000};
        // 1: keys as they come; 8: of near homes; a great odd number: all over the ints.
        int[] strides = {1, 8, 0x10001, 715_827_883};
        // A look at everything behind each call shows most; only few looks leave calls for great tables.
        int[] actsAView = {1, 4, 25, 1000};
        long run = 0;
        for (int half : halves) {
            for (int stride : strides) {
                for (int keys : new int[] {6, 14, 60, 400}) {
                    for (int wave : new int[] {17, 60, 200, 512}) {
                        for (int acts : actsAView) {
                            run++;
                            new ModelTest(run).compare(half, stride, keys, wave, acts);
                        }
                    }
                }
            }
        }
        CHECKS.end();
    }

    /** Puts are many in one wave and removes in the next, so that the map grows and shrinks. */
    private void compare(int half, int stride, int keys, int wave, int actsAView) {
        LimitedMap x = new LimitedMap(half);
        PlainModel model = new PlainModel(half);
        int shownAtTheEnd = Math.min(keys, 60);
        for (int act = 0; x.callsLeft() > shownAtTheEnd + CALLS_A_VIEW; act++) {
            int k = key(next(keys), keys, stride);
            boolean growing = act / wave % 2 == 0;
            String row = "new StepMap(" + half + "), stride " + stride + ", act " + act + ", key " + k;
            int kind = next(20);
            if (kind < (growing ? 14 : 4)) {
                int v = next(1000) - 500;
                CHECKS.due(row + ": put", x.put(k, v), model.put(k, v));
            } else if (kind < 16) {
                CHECKS.due(row + ": remove", x.remove(k), model.remove(k));
            } else if (kind < 18) {
                CHECKS.due(row + ": get", x.get(k), model.get(k));
            } else {
                CHECKS.due(row + ": has", x.has(k), model.has(k));
            }
            if (act % actsAView == actsAView - 1) {
                dueSameState(row, x, model, k, key(next(keys), keys, stride));
            }
        }
        for (int i = 0; i < shownAtTheEnd; i++) {
            int k = key(i * (keys / shownAtTheEnd), keys, stride);
            CHECKS.due("slot(" + k + ") at the end", x.slot(k), model.slot(k));
        }
    }

    private static int key(int number, int keys, int stride) {
        return (number - keys / 4) * stride;
    }

    private void dueSameState(String row, LimitedMap x, PlainModel model, int k, int another) {
        CHECKS.due(row + ": slot(" + k + ")", x.slot(k), model.slot(k));
        CHECKS.due(row + ": slot(" + another + ")", x.slot(another), model.slot(another));
        CHECKS.due(row + ": size()", x.size(), model.size());
        CHECKS.due(row + ": capacity()", x.capacity(), model.capacity());
        CHECKS.due(row + ": migrating()", x.migrating(), model.migrating());
        CHECKS.due(row + ": cursor()", x.cursor(), model.cursor());
        CHECKS.due(row + ": lastWork()", x.lastWork(), model.work);
    }

    private int next(int bound) {
        seed = seed * 6364136223846793005L + 1442695040888963407L;
        return (int) ((seed >>> 33) % bound);
    }
}
