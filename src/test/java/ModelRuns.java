/**
 * Long runs of calls, made by a fixed rule from the run's number, against a model that keeps
 * nothing but each item's key and queue. After every call the model and the object are compared
 * in all that can be asked.
 */
public final class ModelRuns {
    private static final int BAD = -1000;
    private static final int FULL = -2000;
    private static final int NONE = -3000;
    private static final int CALLS = 512;

    private static int wrong = 0;

    public static void main(String[] args) {
        // Few different keys give many ties; many give deep trees. In the compared runs each call
        // is followed by questions, so that only a part of the 512 calls is left for changes.
        int[] spans = {1, 3, 20, 1999};
        for (int run = 0; run < 4000 && wrong < 20; run++) {
            new Run(run, spans[run % spans.length], run % 5 + 1, run % 2 == 0).go();
        }
        System.out.println(wrong == 0 ? "all answers are as due" : "at least " + wrong + " answers are not as due");
        if (wrong != 0) {
            System.exit(1);
        }
    }

    private static final class Run {
        private final int number;
        private final int span;
        private final int fill;
        private final boolean compareAll;
        private final HeapSuite x = new HeapSuite();
        private final int[] key = new int[24];
        private final int[] queue = new int[24];
        private final StringBuilder story = new StringBuilder();
        private long state;
        private int calls = 0;

        Run(int number, int span, int fill, boolean compareAll) {
            this.number = number;
            this.span = span;
            this.fill = fill;
            this.compareAll = compareAll;
            this.state = number * 0x9E3779B97F4A7C15L + 12345;
            java.util.Arrays.fill(queue, -1);
        }

        void go() {
            int before = wrong;
            while (calls < CALLS && wrong == before) {
                step();
                if (compareAll) {
                    compare();
                }
            }
        }

        private int pick(int bound) {
            state = state * 6364136223846793005L + 1442695040888963407L;
            return (int) ((state >>> 33) % bound);
        }

        private int pickKey() {
            return pick(40) == 0 ? pick(2100) - 1050 : pick(span) - span / 2;
        }

        private int pickQueue() {
            return pick(40) == 0 ? pick(12) - 4 : pick(4);
        }

        private int pickItem() {
            return pick(40) == 0 ? pick(40) - 8 : pick(24);
        }

        private void due(String call, int got, int want) {
            calls++;
            if (!call.isEmpty()) {
                story.append(call).append('\n');
            }
            if (got != want && calls <= CALLS) {
                wrong++;
                System.out.println("run " + number + ", call " + calls + ": answered " + got + ", due is " + want
                        + ", after\n" + story);
            }
        }

        private void step() {
            int q = pickQueue();
            int item = pickItem();
            int what = pick(10 + fill);
            switch (what) {
                case 0 -> due("take(" + q + ")", x.take(q), take(q));
                case 1 -> {
                    int d = pick(10) == 0 ? pick(1200) - 100 : pick(span);
                    due("lower(" + item + ", " + d + ")", x.lower(item, d), lower(item, d));
                }
                case 2 -> {
                    int k = pickKey();
                    due("change(" + item + ", " + k + ")", x.change(item, k), change(item, k));
                }
                case 3 -> due("remove(" + item + ")", x.remove(item), remove(item));
                case 4 -> {
                    int b = pickQueue();
                    due("join(" + q + ", " + b + ")", x.join(q, b), join(q, b));
                }
                case 5 -> {
                    int limit = pickKey() - span / 3;
                    due("takeUpTo(" + q + ", " + limit + ")", x.takeUpTo(q, limit), takeUpTo(q, limit));
                }
                case 6 -> due("second(" + q + ")", x.second(q), second(q));
                case 7 -> {
                    int engine = pick(9) - 1;
                    int want = engine < 0 || engine > 6 || q < 0 || q > 3 ? BAD : leader(q, -1);
                    due("first(" + engine + ", " + q + ")", x.first(engine, q), want);
                }
                case 8 -> {
                    int one = pick(9) - 1;
                    int other = pick(9) - 1;
                    boolean both = one >= 0 && one < 7 && other >= 0 && other < 7;
                    due("agree(" + one + ", " + other + ")", x.agree(one, other) ? 1 : 0, both ? 1 : 0);
                }
                default -> {
                    int k = pickKey();
                    due("insert(" + q + ", " + k + ")", x.insert(q, k), insert(q, k));
                }
            }
        }

        private void compare() {
            due("", x.sound() ? 1 : 0, 1);
            int q = pick(4);
            for (int engine = 0; engine < 7; engine++) {
                due("", x.first(engine, q), leader(q, -1));
            }
            due("", x.second(q), second(q));
            due("", x.size(q), count(q));
            int item = pick(24);
            due("", x.keyOf(item), queue[item] < 0 ? NONE : key[item]);
            due("", x.queueOf(item), queue[item] < 0 ? NONE : queue[item]);
        }

        private int insert(int q, int k) {
            if (q < 0 || q > 3 || k < -999 || k > 999) {
                return BAD;
            }
            for (int i = 0; i < 24; i++) {
                if (queue[i] < 0) {
                    queue[i] = q;
                    key[i] = k;
                    return i;
                }
            }
            return FULL;
        }

        private int leader(int q, int without) {
            int best = NONE;
            for (int i = 0; i < 24; i++) {
                if (queue[i] == q && i != without && (best == NONE || key[i] < key[best])) {
                    best = i;
                }
            }
            return best;
        }

        private int take(int q) {
            if (q < 0 || q > 3) {
                return BAD;
            }
            int best = leader(q, -1);
            if (best != NONE) {
                queue[best] = -1;
            }
            return best;
        }

        private int lower(int item, int d) {
            if (item < 0 || item > 23 || d < 0 || d > 999) {
                return BAD;
            }
            if (queue[item] < 0) {
                return NONE;
            }
            if (key[item] - d < -999) {
                return BAD;
            }
            key[item] -= d;
            return key[item];
        }

        private int change(int item, int k) {
            if (item < 0 || item > 23 || k < -999 || k > 999) {
                return BAD;
            }
            if (queue[item] < 0) {
                return NONE;
            }
            int old = key[item];
            key[item] = k;
            return old;
        }

        private int remove(int item) {
            if (item < 0 || item > 23) {
                return BAD;
            }
            if (queue[item] < 0) {
                return NONE;
            }
            int q = queue[item];
            queue[item] = -1;
            return q;
        }

        private int join(int a, int b) {
            if (a < 0 || a > 3 || b < 0 || b > 3 || a == b) {
                return BAD;
            }
            for (int i = 0; i < 24; i++) {
                if (queue[i] == b) {
                    queue[i] = a;
                }
            }
            return count(a);
        }

        private int takeUpTo(int q, int limit) {
            if (q < 0 || q > 3) {
                return BAD;
            }
            int taken = 0;
            for (int i = 0; i < 24; i++) {
                if (queue[i] == q && key[i] <= limit) {
                    queue[i] = -1;
                    taken++;
                }
            }
            return taken;
        }

        private int second(int q) {
            if (q < 0 || q > 3) {
                return BAD;
            }
            int top = leader(q, -1);
            return leader(q, top);
        }

        private int count(int q) {
            int n = 0;
            for (int i = 0; i < 24; i++) {
                if (queue[i] == q) {
                    n++;
                }
            }
            return n;
        }
    }
}
