/**
 * A map of ints to ints that grows and shrinks a few slots a call: while it does, its keys are
 * spread over two tables, and the slots that each call visits are counted.
 */
public final class StepMap {
    /** What put answers when it refuses a key. */
    public static final int FULL = -2000000001;

    private static final int LEAST_SLOTS = 8;
    private static final int MOST_SLOTS = 1024;
    private static final int SLOTS_MOVED_A_CALL = 4;
    private static final int NOT_MIGRATING = -1;

    /** A place is a slot of the new table, or this much more than a slot of the old one. */
    private static final int OLD_PLACES = 2000;

    private final int half;
    private Table newTable;
    private Table oldTable;
    private int nextToMove;
    private int keyCount;
    private int work;

    /** An empty map of at most as many slots as the greatest power of two not above half, from 8 to 1024. */
    public StepMap(int half) {
        this.half = powerWithin(half);
        newTable = new Table(this.half);
        oldTable = new Table(this.half);
        newTable.clear(LEAST_SLOTS);
        nextToMove = NOT_MIGRATING;
    }

    /** Gives the key a value: 0, or FULL if it is a key more than the map can take. */
    public int put(int k, int v) {
        work = 0;
        int place = lookUp(k);
        if (place >= OLD_PLACES) {
            oldTable.values[place - OLD_PLACES] = v;
            return 0;
        }
        if (place >= 0) {
            newTable.values[place] = v;
            return 0;
        }
        if (wouldOutgrowHalf()) {
            return FULL;
        }
        newTable.fill(emptySlot(place), k, v);
        keyCount++;
        moveOn();
        return 0;
    }

    /** The key's value, or 0 when it has none. */
    public int get(int k) {
        work = 0;
        int place = lookUp(k);
        if (place >= OLD_PLACES) {
            return oldTable.values[place - OLD_PLACES];
        }
        return place >= 0 ? newTable.values[place] : 0;
    }

    /** Whether the key is there. */
    public boolean has(int k) {
        work = 0;
        return lookUp(k) >= 0;
    }

    /** Takes the key away: whether it was there. */
    public boolean remove(int k) {
        work = 0;
        int place = lookUp(k);
        if (place < 0) {
            return false;
        }
        if (place >= OLD_PLACES) {
            oldTable.marks[place - OLD_PLACES] = Table.TAKEN;
        } else {
            freeInNew(place);
        }
        keyCount--;
        moveOn();
        return true;
    }

    /** How many keys there are. */
    public int size() {
        return keyCount;
    }

    /** How many slots the new table has. */
    public int capacity() {
        return newTable.slots;
    }

    /** Whether keys are still being moved from the old table to the new one. */
    public boolean migrating() {
        return nextToMove != NOT_MIGRATING;
    }

    /** How many slots the latest put, get, has or remove visited; 0 before any. */
    public int lastWork() {
        return work;
    }

    /** The key's slot in the new table, or 2000 more than its slot in the old one, or -1. */
    public int slot(int k) {
        // Asking for a slot is no work: what lastWork tells must outlive this lookup.
        int workBefore = work;
        int place = lookUp(k);
        work = workBefore;
        return place >= 0 ? place : -1;
    }

    /** The slot of the old table that is moved next, or -1 when nothing is being moved. */
    public int cursor() {
        return nextToMove;
    }

    private static int powerWithin(int bound) {
        int power = LEAST_SLOTS;
        while (power < MOST_SLOTS && power * 2 <= bound) {
            power *= 2;
        }
        return power;
    }

    /** The key's place; below 0 if it is not there, and then emptySlot tells where it could come. */
    private int lookUp(int k) {
        int end = lookFor(newTable, k);
        if (newTable.holds(end, k)) {
            return end;
        }
        if (migrating()) {
            int oldEnd = lookFor(oldTable, k);
            if (oldTable.holds(oldEnd, k)) {
                return OLD_PLACES + oldEnd;
            }
        }
        return -1 - end;
    }

    private static int emptySlot(int missingPlace) {
        return -1 - missingPlace;
    }

    /** The slot where looking for the key ends: the key's own, or an empty one. */
    private int lookFor(Table table, int k) {
        int at = table.home(k);
        work++;
        // A table always has an empty slot; the count only makes the end plain to see.
        for (int seen = 1; seen < table.slots && !table.endsSearch(at, k); seen++) {
            at = table.next(at);
            work++;
        }
        return at;
    }

    /** Frees a slot of the new table, and closes the gap so that no key behind it is cut off from its home. */
    private void freeInNew(int slot) {
        int free = slot;
        newTable.marks[free] = Table.EMPTY;
        int at = newTable.next(free);
        work++;
        for (int seen = 1; seen < newTable.slots && newTable.marks[at] != Table.EMPTY; seen++) {
            if (newTable.reachesBack(at, free)) {
                newTable.shift(at, free);
                free = at;
            }
            at = newTable.next(at);
            work++;
        }
    }

    /** Whether one key more would make the table double beyond its limit. */
    private boolean wouldOutgrowHalf() {
        boolean stillMigrating = migrating() && nextToMove + SLOTS_MOVED_A_CALL < oldTable.slots;
        return !stillMigrating && isCrowdedBy(keyCount + 1) && newTable.slots * 2 > half;
    }

    private boolean isCrowdedBy(int keys) {
        return keys * 4 >= newTable.slots * 3;
    }

    private boolean isSparse() {
        return keyCount * 8 <= newTable.slots && newTable.slots > LEAST_SLOTS;
    }

    /** What is done behind each put of a key more and each remove of one. */
    private void moveOn() {
        if (migrating()) {
            moveNextSlots();
        }
        if (migrating()) {
            return;
        }
        // No doubling goes beyond half here: put has refused the key that would have asked for it.
        if (isCrowdedBy(keyCount)) {
            startMigration(newTable.slots * 2);
        } else if (isSparse()) {
            startMigration(newTable.slots / 2);
        }
    }

    private void moveNextSlots() {
        int end = Math.min(nextToMove + SLOTS_MOVED_A_CALL, oldTable.slots);
        for (int at = nextToMove; at < end; at++) {
            work++;
            if (oldTable.marks[at] == Table.KEY) {
                moveToNew(at);
            }
        }
        nextToMove = end < oldTable.slots ? end : NOT_MIGRATING;
    }

    private void moveToNew(int oldSlot) {
        int k = oldTable.keys[oldSlot];
        newTable.fill(lookFor(newTable, k), k, oldTable.values[oldSlot]);
        oldTable.marks[oldSlot] = Table.TAKEN;
    }

    private void startMigration(int slots) {
        // The two tables change places for ever, so that no call but the constructor makes rows.
        Table emptied = oldTable;
        oldTable = newTable;
        newTable = emptied;
        newTable.clear(slots);
        nextToMove = 0;
    }

    /** A ring of slots, each empty, taken or with a key; its rows are made once, for the most slots it may have. */
    private static final class Table {
        static final int EMPTY = 0;
        static final int TAKEN = 1;
        static final int KEY = 2;

        private static final int SCATTER = 0x9E3779B1;

        final int[] marks;
        final int[] keys;
        final int[] values;
        int slots;

        Table(int mostSlots) {
            marks = new int[mostSlots];
            keys = new int[mostSlots];
            values = new int[mostSlots];
            slots = mostSlots;
        }

        void clear(int newSlots) {
            slots = Math.min(newSlots, marks.length);
            for (int at = 0; at < slots; at++) {
                marks[at] = EMPTY;
            }
        }

        int home(int key) {
            int scattered = key * SCATTER;
            return (scattered ^ (scattered >>> 15)) & (slots - 1);
        }

        int next(int at) {
            return (at + 1) & (slots - 1);
        }

        boolean holds(int at, int key) {
            return marks[at] == KEY && keys[at] == key;
        }

        boolean endsSearch(int at, int key) {
            return marks[at] == EMPTY || holds(at, key);
        }

        /** Whether a search for the key at a slot passes the free slot before it comes there. */
        boolean reachesBack(int at, int free) {
            return ringDistance(home(keys[at]), at) >= ringDistance(free, at);
        }

        private int ringDistance(int from, int to) {
            return (to - from) & (slots - 1);
        }

        void fill(int at, int key, int value) {
            marks[at] = KEY;
            keys[at] = key;
            values[at] = value;
        }

        void shift(int from, int to) {
            fill(to, keys[from], values[from]);
            marks[from] = EMPTY;
        }
    }
}
