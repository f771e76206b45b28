/** Rule 7 of the language: no call throws or fails to end, not even far behind the 512th. */
public final class LongUseTest {
    private static final Checks CHECKS = new Checks("LongUseTest");

    public static void main(String[] args) {
        for (int half : new int[] {8, 16, 64, 1024}) {
            for (int stride : new int[] {1, 8, 1024, 715_827_883}) {
                fillAndEmpty(new StepMap(half), half, stride);
            }
        }
        CHECKS.end();
    }

    private static void fillAndEmpty(StepMap x, int half, int stride) {
        String name = "new StepMap(" + half + "), stride " + stride;
        int most = half / 4 * 3 - 1;
        for (int round = 0; round < 3; round++) {
            for (int i = 0; i < 2 * half; i++) {
                CHECKS.due(name + ": put of key " + i, x.put(i * stride, i), i < most ? 0 : StepMap.FULL);
            }
            CHECKS.dueState(name + ", full", x, most, half, -1, x.lastWork());
            for (int i = 0; i < 2 * half; i++) {
                CHECKS.due(name + ": remove of key " + i, x.remove(i * stride), i < most);
            }
            CHECKS.due(name + ": size() when emptied", x.size(), 0);
        }
    }
}
