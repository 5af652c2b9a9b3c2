/**
 * Keeps items with keys in four queues, in seven ways at once, which all say the same about which
 * comes first.
 *
 * <p>The book (keys, home, count) tells of each item its key and its queue. Beside it stand seven
 * engines, each of which finds the first item of a queue by its own means: two heaps in arrays, a
 * leftist tree, a skew tree, a pairing heap, a binomial heap and a tournament. An item that gets
 * another key leaves all engines with the old one and enters them again with the new one, so that
 * an engine only ever has to know how to add, to drop and to join.
 */
public final class HeapSuite {
    public static final int BAD = -1000;
    public static final int FULL = -2000;
    public static final int NONE = -3000;

    private static final int QUEUES = 4;
    private static final int ITEMS = 24;
    private static final int KEY_LIMIT = 999;
    private static final int NIL = -1;

    private static final int ENGINES = 7;
    private static final int BINARY = 0;
    private static final int FOURFOLD = 1;
    private static final int LEFTIST = 2;
    private static final int SKEW = 3;
    private static final int PAIRING = 4;
    private static final int BINOMIAL = 5;

    /** The two array heaps share their code, and so do the two leaning trees. */
    private static final int KINDS = 2;
    private static final int LEFTIST_KIND = 0;
    private static final int SKEW_KIND = 1;
    private static final int HEAPS = KINDS * QUEUES;
    private static final int SLOTS = HEAPS * ITEMS;
    private static final int NODES = KINDS * ITEMS;

    /** Trees of the orders 0 to 4 hold up to 31 items, which is more than there are. */
    private static final int ORDERS = 5;
    private static final int TREES = QUEUES * ORDERS;

    /** A tournament's nodes: 1 is the top, below n are 2n and 2n + 1, the last ITEMS are leaves. */
    private static final int SEATS = 2 * ITEMS;
    private static final int ALL_SEATS = QUEUES * SEATS;

    private final int[] keys = new int[ITEMS];
    private final int[] home = new int[ITEMS];
    private final int[] count = new int[QUEUES];

    private final int[] slot = new int[SLOTS];
    private final int[] filled = new int[HEAPS];
    private final int[] place = new int[NODES];

    private final int[] leanRoot = new int[HEAPS];
    private final int[] leanLeft = new int[NODES];
    private final int[] leanRight = new int[NODES];
    private final int[] leanUp = new int[NODES];
    private final int[] leanRank = new int[NODES];

    private final int[] pairRoot = new int[QUEUES];
    private final int[] pairChild = new int[ITEMS];
    private final int[] pairNext = new int[ITEMS];
    /** The sibling to the left or, for a first child, the parent. */
    private final int[] pairBack = new int[ITEMS];

    private final int[] tree = new int[TREES];
    private final int[] treeChild = new int[ITEMS];
    private final int[] treeNext = new int[ITEMS];
    private final int[] treeUp = new int[ITEMS];
    /** Items trade nodes on their way up, so which item has which node is kept both ways. */
    private final int[] nodeItem = new int[ITEMS];
    private final int[] itemNode = new int[ITEMS];

    private final int[] winner = new int[ALL_SEATS];

    public HeapSuite() {
        for (int item = 0; item < ITEMS; item++) {
            home[item] = NIL;
            nodeItem[item] = item;
            itemNode[item] = item;
        }
        for (int at = 0; at < HEAPS; at++) {
            leanRoot[at] = NIL;
        }
        for (int q = 0; q < QUEUES; q++) {
            pairRoot[q] = NIL;
        }
        for (int at = 0; at < TREES; at++) {
            tree[at] = NIL;
        }
        for (int at = 0; at < ALL_SEATS; at++) {
            winner[at] = NIL;
        }
    }

    // ---- the public methods

    public int insert(int q, int key) {
        if (!isQueue(q) || !isKey(key)) {
            return BAD;
        }
        for (int item = 0; item < ITEMS; item++) {
            if (home[item] == NIL) {
                attach(q, item, key);
                return item;
            }
        }
        return FULL;
    }

    public int first(int engine, int q) {
        if (!isQueue(q) || !isEngine(engine)) {
            return BAD;
        }
        int item = firstBy(engine, q);
        return item == NIL ? NONE : item;
    }

    public int take(int q) {
        if (!isQueue(q)) {
            return BAD;
        }
        int item = firstBy(BINARY, q);
        if (item == NIL) {
            return NONE;
        }
        detach(item);
        return item;
    }

    public int lower(int item, int d) {
        if (!isItem(item) || d < 0 || d > KEY_LIMIT) {
            return BAD;
        }
        if (home[item] == NIL) {
            return NONE;
        }
        int key = keys[item] - d;
        if (!isKey(key)) {
            return BAD;
        }
        int q = home[item];
        detach(item);
        attach(q, item, key);
        return key;
    }

    public int change(int item, int key) {
        if (!isItem(item) || !isKey(key)) {
            return BAD;
        }
        if (home[item] == NIL) {
            return NONE;
        }
        int old = keys[item];
        int q = home[item];
        detach(item);
        attach(q, item, key);
        return old;
    }

    public int remove(int item) {
        if (!isItem(item)) {
            return BAD;
        }
        int q = home[item];
        if (q == NIL) {
            return NONE;
        }
        detach(item);
        return q;
    }

    public int join(int a, int b) {
        if (!isQueue(a) || !isQueue(b) || a == b) {
            return BAD;
        }
        for (int kind = 0; kind < KINDS; kind++) {
            joinArrayHeaps(kind, a, b);
            joinLeaning(kind, a, b);
        }
        joinPairing(a, b);
        joinBinomial(a, b);
        joinTournaments(a, b);
        for (int item = 0; item < ITEMS; item++) {
            if (home[item] == b) {
                home[item] = a;
            }
        }
        count[a] += count[b];
        count[b] = 0;
        return count[a];
    }

    public int takeUpTo(int q, int limit) {
        if (!isQueue(q)) {
            return BAD;
        }
        int taken = 0;
        for (int step = 0; step < ITEMS; step++) {
            int item = firstBy(BINARY, q);
            if (item == NIL || keys[item] > limit) {
                break;
            }
            detach(item);
            taken++;
        }
        return taken;
    }

    public int size(int q) {
        return isQueue(q) ? count[q] : BAD;
    }

    public int keyOf(int item) {
        if (!isItem(item)) {
            return BAD;
        }
        return home[item] == NIL ? NONE : keys[item];
    }

    public int queueOf(int item) {
        if (!isItem(item)) {
            return BAD;
        }
        return home[item] == NIL ? NONE : home[item];
    }

    public int second(int q) {
        if (!isQueue(q)) {
            return BAD;
        }
        int top = firstBy(BINARY, q);
        int behind = NIL;
        for (int item = 0; item < ITEMS; item++) {
            if (home[item] == q && item != top) {
                behind = better(behind, item);
            }
        }
        return behind == NIL ? NONE : behind;
    }

    public boolean agree(int engine, int other) {
        if (!isEngine(engine) || !isEngine(other)) {
            return false;
        }
        for (int q = 0; q < QUEUES; q++) {
            if (firstBy(engine, q) != firstBy(other, q)) {
                return false;
            }
        }
        return true;
    }

    public boolean sound() {
        if (!linksStayInside() || !bookHolds()) {
            return false;
        }
        for (int kind = 0; kind < KINDS; kind++) {
            if (!arrayHeapsHold(kind) || !leaningHolds(kind)) {
                return false;
            }
        }
        return pairingHolds() && binomialHolds() && tournamentsHold();
    }

    // ---- what all engines use

    private static boolean isQueue(int q) {
        return q >= 0 && q < QUEUES;
    }

    private static boolean isItem(int item) {
        return item >= 0 && item < ITEMS;
    }

    private static boolean isEngine(int engine) {
        return engine >= 0 && engine < ENGINES;
    }

    private static boolean isKey(int key) {
        return key >= -KEY_LIMIT && key <= KEY_LIMIT;
    }

    private boolean comesBefore(int item, int other) {
        return keys[item] < keys[other] || keys[item] == keys[other] && item < other;
    }

    /** The one of two items that comes first, where either may be NIL. */
    private int better(int item, int other) {
        if (item == NIL) {
            return other;
        }
        if (other == NIL) {
            return item;
        }
        return comesBefore(item, other) ? item : other;
    }

    private int firstBy(int engine, int q) {
        switch (engine) {
            case BINARY:
            case FOURFOLD:
                return firstOfArrayHeap(engine - BINARY, q);
            case LEFTIST:
            case SKEW:
                return firstOfLeaning(engine - LEFTIST, q);
            case PAIRING:
                return pairRoot[q];
            case BINOMIAL:
                return firstOfBinomial(q);
            default:
                return winner[q * SEATS + 1];
        }
    }

    private void attach(int q, int item, int key) {
        keys[item] = key;
        home[item] = q;
        count[q]++;
        for (int kind = 0; kind < KINDS; kind++) {
            addToArrayHeap(kind, q, item);
            addToLeaning(kind, q, item);
        }
        addToPairing(q, item);
        addToBinomial(q, item);
        seat(q, item, item);
    }

    private void detach(int item) {
        int q = home[item];
        for (int kind = 0; kind < KINDS; kind++) {
            dropFromArrayHeap(kind, q, item);
            dropFromLeaning(kind, q, item);
        }
        dropFromPairing(q, item);
        dropFromBinomial(q, item);
        seat(q, item, NIL);
        home[item] = NIL;
        count[q]--;
    }

    /** Looked at before all else, so that the other checks may follow every link. */
    private boolean linksStayInside() {
        int lastItem = ITEMS - 1;
        int lastNode = NODES - 1;
        return within(home, NIL, QUEUES - 1)
                && within(slot, 0, lastItem)
                && within(leanRoot, NIL, lastNode)
                && within(leanLeft, NIL, lastNode)
                && within(leanRight, NIL, lastNode)
                && within(leanUp, NIL, lastNode)
                && within(pairRoot, NIL, lastItem)
                && within(pairChild, NIL, lastItem)
                && within(pairNext, NIL, lastItem)
                && within(pairBack, NIL, lastItem)
                && within(tree, NIL, lastItem)
                && within(treeChild, NIL, lastItem)
                && within(treeNext, NIL, lastItem)
                && within(treeUp, NIL, lastItem)
                && within(nodeItem, 0, lastItem)
                && within(itemNode, 0, lastItem)
                && within(winner, NIL, lastItem);
    }

    private static boolean within(int[] values, int least, int most) {
        for (int at = 0; at < values.length; at++) {
            if (values[at] < least || values[at] > most) {
                return false;
            }
        }
        return true;
    }

    private boolean bookHolds() {
        int met = 0;
        for (int q = 0; q < QUEUES; q++) {
            int found = 0;
            for (int item = 0; item < ITEMS; item++) {
                if (home[item] == q) {
                    found++;
                }
            }
            if (found != count[q]) {
                return false;
            }
            met += found;
        }
        for (int item = 0; item < ITEMS; item++) {
            if (!isKey(keys[item])) {
                return false;
            }
            if (home[item] == NIL) {
                met++;
            }
        }
        return met == ITEMS;
    }

    // ---- engines 0 and 1: heaps in arrays, with two and with four below each

    private static int widthOf(int kind) {
        return kind == 0 ? 2 : 4;
    }

    private static int slotAbove(int kind, int at) {
        return kind == 0 ? (at - 1) / 2 : (at - 1) / 4;
    }

    private int firstOfArrayHeap(int kind, int q) {
        int heap = kind * QUEUES + q;
        return filled[heap] == 0 ? NIL : slot[heap * ITEMS];
    }

    private void addToArrayHeap(int kind, int q, int item) {
        int heap = kind * QUEUES + q;
        int at = filled[heap];
        filled[heap]++;
        setSlot(kind, q, at, item);
        siftUp(kind, q, item);
    }

    private void dropFromArrayHeap(int kind, int q, int item) {
        int heap = kind * QUEUES + q;
        int at = place[kind * ITEMS + item];
        filled[heap]--;
        int last = slot[heap * ITEMS + filled[heap]];
        if (last == item) {
            return;
        }
        setSlot(kind, q, at, last);
        // The last one may come from another branch, so it can be too low here or too high.
        siftUp(kind, q, last);
        siftDown(kind, q, last);
    }

    private void joinArrayHeaps(int kind, int a, int b) {
        int heap = kind * QUEUES + b;
        int moving = filled[heap];
        filled[heap] = 0;
        for (int at = 0; at < moving; at++) {
            int item = slot[heap * ITEMS + at];
            addToArrayHeap(kind, a, item);
        }
    }

    private void setSlot(int kind, int q, int at, int item) {
        slot[(kind * QUEUES + q) * ITEMS + at] = item;
        place[kind * ITEMS + item] = at;
    }

    private void siftUp(int kind, int q, int item) {
        int base = (kind * QUEUES + q) * ITEMS;
        int at = place[kind * ITEMS + item];
        for (int step = 0; step < ITEMS && at > 0; step++) {
            int above = slotAbove(kind, at);
            int other = slot[base + above];
            if (comesBefore(other, item)) {
                break;
            }
            setSlot(kind, q, at, other);
            at = above;
        }
        setSlot(kind, q, at, item);
    }

    private void siftDown(int kind, int q, int item) {
        int at = place[kind * ITEMS + item];
        for (int step = 0; step < ITEMS; step++) {
            int least = leastBelow(kind, q, at);
            if (least == NIL || comesBefore(item, least)) {
                break;
            }
            int below = place[kind * ITEMS + least];
            setSlot(kind, q, at, least);
            at = below;
        }
        setSlot(kind, q, at, item);
    }

    private int leastBelow(int kind, int q, int at) {
        int heap = kind * QUEUES + q;
        int width = widthOf(kind);
        int start = at * width + 1;
        int least = NIL;
        for (int below = start; below < start + width && below < filled[heap]; below++) {
            int item = slot[heap * ITEMS + below];
            if (least == NIL || comesBefore(item, least)) {
                least = item;
            }
        }
        return least;
    }

    private boolean arrayHeapsHold(int kind) {
        for (int q = 0; q < QUEUES; q++) {
            if (filled[kind * QUEUES + q] != count[q]) {
                return false;
            }
            for (int at = 0; at < count[q]; at++) {
                if (!slotHolds(kind, q, at)) {
                    return false;
                }
            }
        }
        return true;
    }

    private boolean slotHolds(int kind, int q, int at) {
        int base = (kind * QUEUES + q) * ITEMS;
        int item = slot[base + at];
        if (home[item] != q || place[kind * ITEMS + item] != at) {
            return false;
        }
        if (at == 0) {
            return true;
        }
        int above = slotAbove(kind, at);
        return comesBefore(slot[base + above], item);
    }

    // ---- engines 2 and 3: trees that lean to the left, by their ranks (leftist) or by always
    // swapping on the way of a meld (skew); the node of an item is kind * ITEMS + item

    private int firstOfLeaning(int kind, int q) {
        int root = leanRoot[kind * QUEUES + q];
        return root == NIL ? NIL : root - kind * ITEMS;
    }

    private void addToLeaning(int kind, int q, int item) {
        int node = kind * ITEMS + item;
        leanLeft[node] = NIL;
        leanRight[node] = NIL;
        leanUp[node] = NIL;
        leanRank[node] = 1;
        int heap = kind * QUEUES + q;
        leanRoot[heap] = meldLeaning(kind, leanRoot[heap], node);
    }

    private void dropFromLeaning(int kind, int q, int item) {
        int node = kind * ITEMS + item;
        int above = leanUp[node];
        int rest = meldLeaning(kind, leanLeft[node], leanRight[node]);
        if (above == NIL) {
            leanRoot[kind * QUEUES + q] = rest;
            return;
        }
        if (leanLeft[above] == node) {
            leanLeft[above] = rest;
        } else {
            leanRight[above] = rest;
        }
        if (rest != NIL) {
            leanUp[rest] = above;
        }
        if (kind == LEFTIST_KIND) {
            lean(kind, above);
        }
    }

    private void joinLeaning(int kind, int a, int b) {
        int into = kind * QUEUES + a;
        int from = kind * QUEUES + b;
        leanRoot[into] = meldLeaning(kind, leanRoot[into], leanRoot[from]);
        leanRoot[from] = NIL;
    }

    /** Makes one tree of two, either of which may be NIL, and answers its root. */
    private int meldLeaning(int kind, int a, int b) {
        int base = kind * ITEMS;
        int top = NIL;
        int tail = NIL;
        int one = a;
        int other = b;
        for (int step = 0; step < ITEMS && one != NIL && other != NIL; step++) {
            if (comesBefore(other - base, one - base)) {
                int swap = one;
                one = other;
                other = swap;
            }
            if (tail == NIL) {
                top = one;
            } else {
                leanRight[tail] = one;
            }
            leanUp[one] = tail;
            tail = one;
            one = leanRight[one];
        }
        int rest = one == NIL ? other : one;
        if (rest != NIL) {
            leanUp[rest] = tail;
        }
        if (tail == NIL) {
            return rest;
        }
        leanRight[tail] = rest;
        lean(kind, tail);
        return top;
    }

    /** Sets right, from a node up to the root, which of the two children stands on the left. */
    private void lean(int kind, int from) {
        int node = from;
        for (int step = 0; step < ITEMS && node != NIL; step++) {
            int left = leanLeft[node];
            int right = leanRight[node];
            if (kind == SKEW_KIND || rankOf(left) < rankOf(right)) {
                leanLeft[node] = right;
                leanRight[node] = left;
            }
            leanRank[node] = rankOf(leanRight[node]) + 1;
            node = leanUp[node];
        }
    }

    private int rankOf(int node) {
        return node == NIL ? 0 : leanRank[node];
    }

    private boolean leaningHolds(int kind) {
        for (int q = 0; q < QUEUES; q++) {
            if ((leanRoot[kind * QUEUES + q] == NIL) != (count[q] == 0)) {
                return false;
            }
        }
        for (int item = 0; item < ITEMS; item++) {
            if (home[item] != NIL && !leaningItemHolds(kind, item)) {
                return false;
            }
        }
        return true;
    }

    private boolean leaningItemHolds(int kind, int item) {
        int base = kind * ITEMS;
        int node = base + item;
        int left = leanLeft[node];
        int right = leanRight[node];
        if (!leaningChildHolds(kind, item, left) || !leaningChildHolds(kind, item, right)) {
            return false;
        }
        if (left != NIL && left == right) {
            return false;
        }
        if (kind == LEFTIST_KIND
                && (rankOf(left) < rankOf(right) || leanRank[node] != rankOf(right) + 1)) {
            return false;
        }
        int above = leanUp[node];
        if (above == NIL) {
            return leanRoot[kind * QUEUES + home[item]] == node;
        }
        return leanLeft[above] == node || leanRight[above] == node;
    }

    private boolean leaningChildHolds(int kind, int item, int child) {
        if (child == NIL) {
            return true;
        }
        int base = kind * ITEMS;
        int below = child - base;
        return isItem(below)
                && leanUp[child] == base + item
                && home[below] == home[item]
                && comesBefore(item, below);
    }

    // ---- engine 4: a pairing heap; an item is its own node

    private void addToPairing(int q, int item) {
        pairChild[item] = NIL;
        pairNext[item] = NIL;
        pairBack[item] = NIL;
        pairRoot[q] = pairUp(pairRoot[q], item);
    }

    private void dropFromPairing(int q, int item) {
        int rest = pairChildrenOf(item);
        int back = pairBack[item];
        if (back == NIL) {
            pairRoot[q] = rest;
            return;
        }
        int next = pairNext[item];
        if (pairChild[back] == item) {
            pairChild[back] = next;
        } else {
            pairNext[back] = next;
        }
        if (next != NIL) {
            pairBack[next] = back;
        }
        pairRoot[q] = pairUp(pairRoot[q], rest);
    }

    private void joinPairing(int a, int b) {
        pairRoot[a] = pairUp(pairRoot[a], pairRoot[b]);
        pairRoot[b] = NIL;
    }

    /** Hangs the later of two roots, either of which may be NIL, under the other one. */
    private int pairUp(int a, int b) {
        if (a == NIL || b == NIL) {
            return a == NIL ? b : a;
        }
        boolean firstIsTop = comesBefore(a, b);
        int top = firstIsTop ? a : b;
        int below = firstIsTop ? b : a;
        int beside = pairChild[top];
        pairNext[below] = beside;
        pairBack[below] = top;
        if (beside != NIL) {
            pairBack[beside] = below;
        }
        pairChild[top] = below;
        return top;
    }

    /** Makes one tree of an item's children, in the two passes that give the heap its name. */
    private int pairChildrenOf(int item) {
        int rest = pairChild[item];
        int paired = NIL;
        for (int step = 0; step < ITEMS && rest != NIL; step++) {
            int one = rest;
            int other = pairNext[one];
            rest = NIL;
            if (other != NIL) {
                rest = pairNext[other];
                pairNext[other] = NIL;
                pairBack[other] = NIL;
            }
            pairNext[one] = NIL;
            pairBack[one] = NIL;
            int top = pairUp(one, other);
            pairNext[top] = paired;
            paired = top;
        }
        int whole = NIL;
        for (int step = 0; step < ITEMS && paired != NIL; step++) {
            int one = paired;
            paired = pairNext[one];
            pairNext[one] = NIL;
            whole = pairUp(whole, one);
        }
        pairChild[item] = NIL;
        return whole;
    }

    private boolean pairingHolds() {
        for (int q = 0; q < QUEUES; q++) {
            if ((pairRoot[q] == NIL) != (count[q] == 0)) {
                return false;
            }
        }
        for (int item = 0; item < ITEMS; item++) {
            if (home[item] != NIL && !pairingItemHolds(item)) {
                return false;
            }
        }
        return true;
    }

    private boolean pairingItemHolds(int item) {
        int child = pairChild[item];
        int next = pairNext[item];
        if (!pairingLinkHolds(item, child) || !pairingLinkHolds(item, next)) {
            return false;
        }
        if (child != NIL && child == next) {
            return false;
        }
        int back = pairBack[item];
        if (back == NIL) {
            return pairRoot[home[item]] == item && next == NIL;
        }
        if (pairChild[back] != item && pairNext[back] != item) {
            return false;
        }
        int parent = pairParentOf(item);
        return parent != NIL && comesBefore(parent, item);
    }

    private boolean pairingLinkHolds(int item, int linked) {
        return linked == NIL || pairBack[linked] == item && home[linked] == home[item];
    }

    private int pairParentOf(int item) {
        int at = item;
        for (int step = 0; step < ITEMS; step++) {
            int back = pairBack[at];
            if (back == NIL || pairChild[back] == at) {
                return back;
            }
            at = back;
        }
        return NIL;
    }

    // ---- engine 5: a binomial heap; its children stand from the highest order to the lowest

    private int firstOfBinomial(int q) {
        int least = NIL;
        for (int order = 0; order < ORDERS; order++) {
            int root = tree[q * ORDERS + order];
            if (root != NIL) {
                least = better(least, nodeItem[root]);
            }
        }
        return least;
    }

    private void addToBinomial(int q, int item) {
        int node = itemNode[item];
        treeChild[node] = NIL;
        addTree(q, node, 0);
    }

    private void dropFromBinomial(int q, int item) {
        raiseToRoot(item);
        int root = itemNode[item];
        int rootOrder = orderOf(root);
        tree[q * ORDERS + rootOrder] = NIL;
        int child = treeChild[root];
        for (int order = rootOrder - 1; order >= 0 && child != NIL; order--) {
            int next = treeNext[child];
            addTree(q, child, order);
            child = next;
        }
    }

    private void joinBinomial(int a, int b) {
        for (int order = 0; order < ORDERS; order++) {
            int root = tree[b * ORDERS + order];
            if (root != NIL) {
                tree[b * ORDERS + order] = NIL;
                addTree(a, root, order);
            }
        }
    }

    /** Adds a tree as a digit is added to a binary number, with a carry to the next order. */
    private void addTree(int q, int root, int order) {
        int carried = root;
        for (int at = order; at < ORDERS; at++) {
            int there = tree[q * ORDERS + at];
            if (there == NIL) {
                tree[q * ORDERS + at] = carried;
                treeUp[carried] = NIL;
                treeNext[carried] = NIL;
                return;
            }
            tree[q * ORDERS + at] = NIL;
            carried = linkTrees(there, carried);
        }
    }

    private int linkTrees(int a, int b) {
        boolean firstIsTop = comesBefore(nodeItem[a], nodeItem[b]);
        int top = firstIsTop ? a : b;
        int below = firstIsTop ? b : a;
        treeUp[below] = top;
        treeNext[below] = treeChild[top];
        treeChild[top] = below;
        return top;
    }

    /** Brings an item to its tree's root whatever its key, as it is on its way out. */
    private void raiseToRoot(int item) {
        int node = itemNode[item];
        for (int step = 0; step < ORDERS && treeUp[node] != NIL; step++) {
            int above = treeUp[node];
            int moved = nodeItem[above];
            nodeItem[node] = moved;
            itemNode[moved] = node;
            node = above;
        }
        nodeItem[node] = item;
        itemNode[item] = node;
    }

    private int orderOf(int node) {
        int order = 0;
        int child = treeChild[node];
        for (int step = 0; step < ORDERS - 1 && child != NIL; step++) {
            order++;
            child = treeNext[child];
        }
        return order;
    }

    private boolean binomialHolds() {
        for (int q = 0; q < QUEUES; q++) {
            if (!treesHold(q)) {
                return false;
            }
        }
        for (int item = 0; item < ITEMS; item++) {
            if (nodeItem[itemNode[item]] != item) {
                return false;
            }
            if (home[item] != NIL && !binomialItemHolds(item)) {
                return false;
            }
        }
        return true;
    }

    private boolean treesHold(int q) {
        int inTrees = 0;
        for (int order = 0; order < ORDERS; order++) {
            int root = tree[q * ORDERS + order];
            if (root == NIL) {
                continue;
            }
            if (home[nodeItem[root]] != q || treeUp[root] != NIL || orderOf(root) != order) {
                return false;
            }
            inTrees += 1 << order;
        }
        return inTrees == count[q];
    }

    private boolean binomialItemHolds(int item) {
        int node = itemNode[item];
        int order = orderOf(node);
        if (treeUp[node] == NIL && tree[home[item] * ORDERS + order] != node) {
            return false;
        }
        int child = treeChild[node];
        for (int due = order - 1; due >= 0 && child != NIL; due--) {
            int below = nodeItem[child];
            if (treeUp[child] != node || orderOf(child) != due) {
                return false;
            }
            if (home[below] != home[item] || !comesBefore(item, below)) {
                return false;
            }
            child = treeNext[child];
        }
        return child == NIL;
    }

    // ---- engine 6: a tournament for each queue, in which every item has a seat of its own

    /** Puts an item (or NIL, when it leaves) on its seat and plays the matches above it again. */
    private void seat(int q, int item, int sitting) {
        int base = q * SEATS;
        int at = ITEMS + item;
        winner[base + at] = sitting;
        for (int step = 0; step < ITEMS && at > 1; step++) {
            at = at / 2;
            winner[base + at] = better(winner[base + 2 * at], winner[base + 2 * at + 1]);
        }
    }

    private void joinTournaments(int a, int b) {
        for (int item = 0; item < ITEMS; item++) {
            if (winner[b * SEATS + ITEMS + item] != NIL) {
                seat(a, item, item);
                seat(b, item, NIL);
            }
        }
    }

    private boolean tournamentsHold() {
        for (int q = 0; q < QUEUES; q++) {
            int base = q * SEATS;
            for (int item = 0; item < ITEMS; item++) {
                int due = home[item] == q ? item : NIL;
                if (winner[base + ITEMS + item] != due) {
                    return false;
                }
            }
            for (int at = 1; at < ITEMS; at++) {
                int due = better(winner[base + 2 * at], winner[base + 2 * at + 1]);
                if (winner[base + at] != due) {
                    return false;
                }
            }
        }
        return true;
    }
}
