/**
 * All promises at once: runs of 512 calls, each answer and the state behind each call compared with
 * PlainModel. The runs come from a fixed row of numbers, so that they are the same each time.
 */
public final class ModelTest {
    private static final Checks CHECKS = new Checks("ModelTest");
    private static final int CALLS = 512;

    private long seed;

    private ModelTest(long seed) {
        this.seed = seed;
    }

    public static void main(String[] args) {
        int[] halves = {-5, 8, 16, 17, 32, 64, 128, 256, 1024, 5000};
        // 1: keys as they come; 8: of near homes; a great odd number: all over the ints.
        int[] strides = {1, 8, 0x10001, 715_827_883};
        long run = 0;
        for (int half : halves) {
            for (int stride : strides) {
                for (int keys : new int[] {6, 14, 60, 400}) {
                    for (int wave : new int[] {17, 60, 200, CALLS}) {
                        run++;
                        new ModelTest(run).compare(half, stride, keys, wave);
                    }
                }
            }
        }
        CHECKS.end();
    }

    /** Puts are many in one wave and removes in the next, so that the map grows and shrinks. */
    private void compare(int half, int stride, int keys, int wave) {
        StepMap x = new StepMap(half);
        PlainModel model = new PlainModel(half);
        for (int call = 0; call < CALLS; call++) {
            int k = (next(keys) - keys / 4) * stride;
            boolean growing = call / wave % 2 == 0;
            String row = "new StepMap(" + half + "), stride " + stride + ", call " + call + ", key " + k;
            int kind = next(20);
            if (kind < (growing ? 14 : 4)) {
                int v = next(1000) - 500;
                CHECKS.due(row + ": put", x.put(k, v), model.put(k, v));
            } else if (kind < 16) {
                CHECKS.due(row + ": remove", x.remove(k), model.remove(k));
            } else if (kind < 18) {
                CHECKS.due(row + ": get", x.get(k), model.get(k));
            } else {
                CHECKS.due(row + ": has", x.has(k), model.has(k));
            }
            dueSameState(row, x, model, k, (next(keys) - keys / 4) * stride);
        }
        for (int i = 0; i < keys; i++) {
            int k = (i - keys / 4) * stride;
            CHECKS.due("slot(" + k + ") at the end", x.slot(k), model.slot(k));
            CHECKS.due("get(" + k + ") at the end", x.get(k), model.get(k));
        }
    }

    private void dueSameState(String row, StepMap x, PlainModel model, int k, int another) {
        CHECKS.due(row + ": slot(" + k + ")", x.slot(k), model.slot(k));
        CHECKS.due(row + ": slot(" + another + ")", x.slot(another), model.slot(another));
        CHECKS.due(row + ": size()", x.size(), model.size());
        CHECKS.due(row + ": capacity()", x.capacity(), model.capacity());
        CHECKS.due(row + ": migrating()", x.migrating(), model.migrating());
        CHECKS.due(row + ": cursor()", x.cursor(), model.cursor());
        CHECKS.due(row + ": lastWork()", x.lastWork(), model.work);
    }

    private int next(int bound) {
        seed = seed * 6364136223846793005L + 1442695040888963407L;
        return (int) ((seed >>> 33) % bound);
    }
}
