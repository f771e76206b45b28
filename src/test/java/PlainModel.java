import java.util.ArrayList;
import java.util.Arrays;
import java.util.List;
import java.util.Objects;

/** The document's words written out a second time, with the Java library and with no thought of speed. */
final class PlainModel {
    /** One slot's content: null is empty, TAKEN is taken, any other entry is a key with its value. */
    private record Entry(int key, int value) {
    }

    private static final Entry TAKEN = new Entry(0, 0);

    private final int half;
    private List<Entry> fresh = emptyTable(8);
    private List<Entry> old;
    private int cursor;
    int work;

    PlainModel(int half) {
        int power = 8;
        for (int candidate : new int[] {16, 32, 64, 128, 256, 512, 1024}) {
            if (candidate <= half) {
                power = candidate;
            }
        }
        this.half = power;
    }

    int put(int k, int v) {
        int place = counted(k);
        if (place >= 2000) {
            old.set(place - 2000, new Entry(k, v));
            return 0;
        }
        if (place >= 0) {
            fresh.set(place, new Entry(k, v));
            return 0;
        }
        boolean migrationLeft = old != null && cursor + 4 < old.size();
        if (!migrationLeft && 4 * (size() + 1) >= 3 * capacity() && 2 * capacity() > half) {
            return -2000000001;
        }
        fresh.set(path(fresh, k).get(path(fresh, k).size() - 1), new Entry(k, v));
        step();
        return 0;
    }

    int get(int k) {
        int place = counted(k);
        return place < 0 ? 0 : (place >= 2000 ? old.get(place - 2000) : fresh.get(place)).value();
    }

    boolean has(int k) {
        return counted(k) >= 0;
    }

    boolean remove(int k) {
        int place = counted(k);
        if (place < 0) {
            return false;
        }
        if (place >= 2000) {
            old.set(place - 2000, TAKEN);
        } else {
            freeAndClose(place);
        }
        step();
        return true;
    }

    int size() {
        return keysIn(fresh) + (old == null ? 0 : keysIn(old));
    }

    int capacity() {
        return fresh.size();
    }

    boolean migrating() {
        return old != null;
    }

    int cursor() {
        return old == null ? -1 : cursor;
    }

    int slot(int k) {
        int inFresh = indexOf(fresh, k);
        if (inFresh >= 0) {
            return inFresh;
        }
        int inOld = old == null ? -1 : indexOf(old, k);
        return inOld >= 0 ? 2000 + inOld : -1;
    }

    private int counted(int k) {
        work = path(fresh, k).size();
        if (indexOf(fresh, k) < 0 && old != null) {
            work += path(old, k).size();
        }
        return slot(k);
    }

    private void freeAndClose(int place) {
        int n = fresh.size();
        int free = place;
        fresh.set(free, null);
        for (int at = (place + 1) % n; ; at = (at + 1) % n) {
            work++;
            Entry entry = fresh.get(at);
            if (entry == null) {
                return;
            }
            List<Integer> onTheWay = new ArrayList<>();
            for (int i = free; i != at; ) {
                i = (i + 1) % n;
                onTheWay.add(i);
            }
            if (!onTheWay.contains(home(entry.key(), n))) {
                fresh.set(free, entry);
                fresh.set(at, null);
                free = at;
            }
        }
    }

    private void step() {
        for (int i = 0; i < 4 && old != null && cursor < old.size(); i++, cursor++) {
            work++;
            Entry entry = old.get(cursor);
            if (entry != null && entry != TAKEN) {
                List<Integer> path = path(fresh, entry.key());
                work += path.size();
                fresh.set(path.get(path.size() - 1), entry);
                old.set(cursor, TAKEN);
            }
        }
        if (old != null && cursor == old.size()) {
            old = null;
        }
        if (old == null && 4 * size() >= 3 * capacity()) {
            migrateTo(2 * capacity());
        } else if (old == null && 8 * size() <= capacity() && capacity() > 8) {
            migrateTo(capacity() / 2);
        }
    }

    private void migrateTo(int slots) {
        old = fresh;
        fresh = emptyTable(slots);
        cursor = 0;
    }

    /** The slots visited when a key is looked for, in their order. */
    private static List<Integer> path(List<Entry> table, int k) {
        List<Integer> path = new ArrayList<>();
        for (int at = home(k, table.size()); ; at = (at + 1) % table.size()) {
            path.add(at);
            Entry entry = table.get(at);
            if (entry == null || entry != TAKEN && entry.key() == k) {
                return path;
            }
        }
    }

    private static int indexOf(List<Entry> table, int k) {
        for (int at = 0; at < table.size(); at++) {
            Entry entry = table.get(at);
            if (entry != null && entry != TAKEN && entry.key() == k) {
                return at;
            }
        }
        return -1;
    }

    private static int keysIn(List<Entry> table) {
        return (int) table.stream().filter(Objects::nonNull).filter(entry -> entry != TAKEN).count();
    }

    /** Reckoned in longs: the low 32 bits of the product stand for the wrapped int. */
    private static int home(int k, int slots) {
        long product = k * 0x9E3779B1L & 0xFFFFFFFFL;
        return (int) ((product ^ product >> 15) % slots);
    }

    private static List<Entry> emptyTable(int slots) {
        return new ArrayList<>(Arrays.asList(new Entry[slots]));
    }
}
