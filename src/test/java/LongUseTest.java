/**
 * Rule 7 of the language: no call throws or fails to end, not even behind the 512th. What those
 * calls answer is free, so nothing is asked of it here.
 */
public final class LongUseTest {
    private static final Checks CHECKS = new Checks("LongUseTest");

    public static void main(String[] args) {
        for (int half : new int[] {Integer.MIN_VALUE, 8, 16, 64, 1024, Integer.MAX_VALUE}) {
            for (int stride : new int[] {1, 8, 1024, 715_827_883}) {
                CHECKS.due("new StepMap(" + half + "), stride " + stride + ": all calls came back",
                        callsComeBack(new StepMap(half), stride), true);
            }
        }
        CHECKS.end();
    }

    private static boolean callsComeBack(StepMap x, int stride) {
        try {
            for (int round = 0; round < 3; round++) {
                for (int i = 0; i < 2048; i++) {
                    x.put(i * stride, i);
                    look(x, (i + 7) * stride);
                }
                for (int i = 0; i < 2048; i++) {
                    x.remove(i * stride);
                    look(x, (i + 7) * stride);
                }
            }
            return true;
        } catch (RuntimeException thrown) {
            thrown.printStackTrace();
            return false;
        }
    }

    private static void look(StepMap x, int k) {
        x.get(k);
        x.has(k);
        x.slot(k);
        x.size();
        x.capacity();
        x.migrating();
        x.lastWork();
        x.cursor();
    }
}
