/** Counts and prints the calls whose answer is not the one that is due. */
final class Checks {
    private final String name;
    private int asked;
    private int wrong;

    Checks(String name) {
        this.name = name;
    }

    void due(String call, long got, long want) {
        asked++;
        if (got != want) {
            wrong++;
            System.out.println(name + ": " + call + " answered " + got + ", due is " + want);
        }
    }

    void due(String call, boolean got, boolean want) {
        due(call, got ? 1L : 0L, want ? 1L : 0L);
    }

    /** What every observer answers: the cursor also tells whether it is migrating. */
    void dueState(String after, LimitedMap x, int size, int capacity, int cursor, int work) {
        due(after + ": size()", x.size(), size);
        due(after + ": capacity()", x.capacity(), capacity);
        due(after + ": migrating()", x.migrating(), cursor != -1);
        due(after + ": cursor()", x.cursor(), cursor);
        due(after + ": lastWork()", x.lastWork(), work);
    }

    /** Ends the test, with exit code 1 if an answer was wrong. */
    void end() {
        System.out.println(name + ": " + asked + " answers, " + wrong + " wrong");
        if (wrong != 0 || asked == 0) {
            System.exit(1);
        }
    }
}
