/** Keeps items with keys in four queues. */
public final class HeapSuite {
    public static final int BAD = -1000;
    public static final int FULL = -2000;
    public static final int NONE = -3000;

    private static final int QUEUES = 4;
    private static final int ITEMS = 24;
    private static final int ENGINES = 7;
    private static final int KEY_LIMIT = 999;
    private static final int NIL = -1;

    private final int[] key = new int[ITEMS];
    private final int[] home = new int[ITEMS];
    private final int[] count = new int[QUEUES];

    public HeapSuite() {
        for (int item = 0; item < ITEMS; item++) {
            home[item] = NIL;
        }
    }

    public int insert(int q, int newKey) {
        if (!isQueue(q) || !isKey(newKey)) {
            return BAD;
        }
        for (int item = 0; item < ITEMS; item++) {
            if (home[item] == NIL) {
                key[item] = newKey;
                home[item] = q;
                count[q]++;
                return item;
            }
        }
        return FULL;
    }

    public int first(int engine, int q) {
        if (!isQueue(q) || !isEngine(engine)) {
            return BAD;
        }
        return leastBut(q, NIL);
    }

    public int take(int q) {
        if (!isQueue(q)) {
            return BAD;
        }
        int item = leastBut(q, NIL);
        if (item != NONE) {
            home[item] = NIL;
            count[q]--;
        }
        return item;
    }

    public int lower(int item, int d) {
        if (!isItem(item) || d < 0 || d > KEY_LIMIT) {
            return BAD;
        }
        if (home[item] == NIL) {
            return NONE;
        }
        if (key[item] - d < -KEY_LIMIT) {
            return BAD;
        }
        key[item] -= d;
        return key[item];
    }

    public int change(int item, int newKey) {
        if (!isItem(item) || !isKey(newKey)) {
            return BAD;
        }
        if (home[item] == NIL) {
            return NONE;
        }
        int old = key[item];
        key[item] = newKey;
        return old;
    }

    public int remove(int item) {
        if (!isItem(item)) {
            return BAD;
        }
        int q = home[item];
        if (q == NIL) {
            return NONE;
        }
        home[item] = NIL;
        count[q]--;
        return q;
    }

    public int join(int a, int b) {
        if (!isQueue(a) || !isQueue(b) || a == b) {
            return BAD;
        }
        for (int item = 0; item < ITEMS; item++) {
            if (home[item] == b) {
                home[item] = a;
            }
        }
        count[a] += count[b];
        count[b] = 0;
        return count[a];
    }

    public int takeUpTo(int q, int limit) {
        if (!isQueue(q)) {
            return BAD;
        }
        int taken = 0;
        for (int item = 0; item < ITEMS; item++) {
            if (home[item] == q && key[item] <= limit) {
                home[item] = NIL;
                taken++;
            }
        }
        count[q] -= taken;
        return taken;
    }

    public int size(int q) {
        return isQueue(q) ? count[q] : BAD;
    }

    public int keyOf(int item) {
        if (!isItem(item)) {
            return BAD;
        }
        return home[item] == NIL ? NONE : key[item];
    }

    public int queueOf(int item) {
        if (!isItem(item)) {
            return BAD;
        }
        return home[item] == NIL ? NONE : home[item];
    }

    public int second(int q) {
        if (!isQueue(q)) {
            return BAD;
        }
        int top = leastBut(q, NIL);
        return leastBut(q, top);
    }

    public boolean agree(int engine, int other) {
        return isEngine(engine) && isEngine(other);
    }

    public boolean sound() {
        return true;
    }

    private static boolean isQueue(int q) {
        return q >= 0 && q < QUEUES;
    }

    private static boolean isItem(int item) {
        return item >= 0 && item < ITEMS;
    }

    private static boolean isEngine(int engine) {
        return engine >= 0 && engine < ENGINES;
    }

    private static boolean isKey(int value) {
        return value >= -KEY_LIMIT && value <= KEY_LIMIT;
    }

    private int leastBut(int q, int without) {
        int least = NONE;
        for (int item = 0; item < ITEMS; item++) {
            if (home[item] == q && item != without && (least == NONE || key[item] < key[least])) {
                least = item;
            }
        }
        return least;
    }
}
