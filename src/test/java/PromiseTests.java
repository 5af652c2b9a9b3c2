/** One test or more for each promise: ordinary inputs, the edges that are named, wrong inputs. */
public final class PromiseTests {
    private static final int BAD = -1000;
    private static final int FULL = -2000;
    private static final int NONE = -3000;
    private static final int ENGINES = 7;
    private static final int QUEUES = 4;
    private static final int ITEMS = 24;
    private static final int[] NO_QUEUE = {-1, 4, 5, 24, -1000, Integer.MIN_VALUE, Integer.MAX_VALUE};
    private static final int[] NO_ITEM = {-1, 24, 25, 999, -3000, Integer.MIN_VALUE, Integer.MAX_VALUE};
    private static final int[] NO_ENGINE = {-1, 7, 8, Integer.MIN_VALUE, Integer.MAX_VALUE};
    private static final int[] NO_KEY = {-1000, 1000, -3000, Integer.MIN_VALUE, Integer.MAX_VALUE};

    private static int wrong = 0;

    public static void main(String[] args) {
        newObject();
        insertAnswersLeastFreeItem();
        insertRefuses();
        firstByKeyThenNumber();
        firstRefuses();
        takeInOrder();
        takeRefuses();
        lowerMovesAnItem();
        lowerAtTheEdges();
        lowerTestsInOrder();
        changeMovesAnItem();
        changeRefuses();
        removeFromAnyPlace();
        removeRefuses();
        joinMovesAll();
        joinRefuses();
        takeUpToStopsBehindTheLimit();
        takeUpToAtTheEdges();
        sizeCounts();
        keyOfFollows();
        queueOfFollows();
        secondFollows();
        agreeOnAllEngines();
        soundAllTheTime();
        constantsAreAsWritten();
        objectsAreApart();
        System.out.println(wrong == 0 ? "all answers are as due" : wrong + " answers are not as due");
        if (wrong != 0) {
            System.exit(1);
        }
    }

    private static void due(String what, int got, int want) {
        if (got != want) {
            wrong++;
            System.out.println(what + " answered " + got + ", due is " + want);
        }
    }

    private static void due(String what, boolean got, boolean want) {
        due(what, got ? 1 : 0, want ? 1 : 0);
    }

    /** A new object with items 0, 1, .. of the given keys in one queue. */
    private static HeapSuite with(int q, int... keys) {
        HeapSuite x = new HeapSuite();
        for (int i = 0; i < keys.length; i++) {
            due("insert for a test", x.insert(q, keys[i]), i);
        }
        return x;
    }

    private static void firstIs(String what, HeapSuite x, int q, int want) {
        for (int engine = 0; engine < ENGINES; engine++) {
            due(what + ": first(" + engine + ", " + q + ")", x.first(engine, q), want);
        }
    }

    private static void takenAre(String what, HeapSuite x, int q, int... items) {
        for (int item : items) {
            firstIs(what, x, q, item);
            due(what + ": take(" + q + ")", x.take(q), item);
            due(what + ": sound()", x.sound(), true);
        }
        firstIs(what, x, q, NONE);
        due(what + ": take(" + q + ") at the end", x.take(q), NONE);
    }

    // Promise 1

    private static void newObject() {
        HeapSuite x = new HeapSuite();
        for (int q = 0; q < QUEUES; q++) {
            due("1: size", x.size(q), 0);
            firstIs("1", x, q, NONE);
            due("1: second", x.second(q), NONE);
            due("1: take", x.take(q), NONE);
        }
        for (int item = 0; item < ITEMS; item++) {
            due("1: queueOf " + item, x.queueOf(item), NONE);
            due("1: keyOf " + item, x.keyOf(item), NONE);
        }
        due("1: sound", x.sound(), true);
    }

    // Promise 2

    private static void insertAnswersLeastFreeItem() {
        HeapSuite x = new HeapSuite();
        for (int item = 0; item < ITEMS; item++) {
            due("2: insert", x.insert(item % QUEUES, 100 - item), item);
            due("2: keyOf", x.keyOf(item), 100 - item);
            due("2: queueOf", x.queueOf(item), item % QUEUES);
        }
        due("2: insert when full", x.insert(0, 0), FULL);
        due("2: insert when full, other queue", x.insert(3, 999), FULL);
        due("2: a wrong queue before full", x.insert(4, 0), BAD);
        due("2: a wrong key before full", x.insert(0, 1000), BAD);
        x.remove(17);
        x.remove(5);
        x.remove(11);
        due("2: least free", x.insert(2, 1), 5);
        due("2: next free", x.insert(2, 1), 11);
        due("2: last free", x.insert(2, 1), 17);
        due("2: full again", x.insert(2, 1), FULL);
        due("2: the key of an item used again", x.keyOf(5), 1);
        due("2: the queue of an item used again", x.queueOf(5), 2);
    }

    private static void insertRefuses() {
        HeapSuite x = new HeapSuite();
        for (int q : NO_QUEUE) {
            due("2: insert into " + q, x.insert(q, 0), BAD);
        }
        for (int key : NO_KEY) {
            due("2: insert key " + key, x.insert(0, key), BAD);
        }
        due("2: least key", x.insert(0, -999), 0);
        due("2: greatest key", x.insert(0, 999), 1);
        due("2: nothing else came in", x.size(0), 2);
    }

    // Promises 3 and 16

    private static void firstByKeyThenNumber() {
        HeapSuite x = with(1, 5, 5, 4, 4, 6);
        firstIs("3: the lesser key, then the lesser number", x, 1, 2);
        firstIs("3: another queue", x, 0, NONE);
        x.change(3, 3);
        firstIs("3: a lesser key with a greater number", x, 1, 3);
        due("3: first takes nothing out", x.size(1), 5);
        HeapSuite edges = with(0, 999, -999);
        firstIs("3: the keys at the edges", edges, 0, 1);
    }

    private static void firstRefuses() {
        HeapSuite empty = new HeapSuite();
        HeapSuite held = with(0, 1, 2, 3);
        for (int engine : NO_ENGINE) {
            due("16: no engine, empty", empty.first(engine, 0), BAD);
            due("3: no engine, not empty", held.first(engine, 0), BAD);
            due("3: no engine, no queue", held.first(engine, 4), BAD);
        }
        for (int q : NO_QUEUE) {
            for (int engine = 0; engine < ENGINES; engine++) {
                due("16: no queue, empty", empty.first(engine, q), BAD);
                due("3: no queue, not empty", held.first(engine, q), BAD);
            }
        }
    }

    // Promise 4

    private static void takeInOrder() {
        HeapSuite x = with(2, 7, -3, 7, 0, -3, 12, 0, 7);
        x.insert(1, -500);
        takenAre("4", x, 2, 1, 4, 3, 6, 0, 2, 7, 5);
        due("4: the other queue stays", x.size(1), 1);
        due("4: a taken item is in no queue", x.queueOf(1), NONE);
        due("4: a taken item is free", x.insert(0, 1), 0);
        int[] falling = new int[ITEMS];
        int[] order = new int[ITEMS];
        for (int i = 0; i < ITEMS; i++) {
            falling[i] = -i;
            order[i] = ITEMS - 1 - i;
        }
        takenAre("4: falling", with(3, falling), 3, order);
        takenAre("4: all the same", with(0, new int[ITEMS]), 0,
                0, 1, 2, 3, 4, 5, 6, 7, 8, 9, 10, 11, 12, 13, 14, 15, 16, 17, 18, 19, 20, 21, 22, 23);
    }

    private static void takeRefuses() {
        HeapSuite x = with(0, 1);
        for (int q : NO_QUEUE) {
            due("4: take(" + q + ")", x.take(q), BAD);
        }
        due("4: take of an empty queue", x.take(1), NONE);
        due("4: nothing was taken", x.size(0), 1);
    }

    // Promise 5

    private static void lowerMovesAnItem() {
        HeapSuite x = with(0, 10, 20, 30, 40, 50);
        due("5: lower", x.lower(4, 35), 15);
        due("5: keyOf", x.keyOf(4), 15);
        firstIs("5: not yet first", x, 0, 0);
        due("5: lower to the same key", x.lower(4, 5), 10);
        firstIs("5: the lesser number stays first", x, 0, 0);
        due("5: lower by one", x.lower(4, 1), 9);
        firstIs("5: now first", x, 0, 4);
        due("5: the queue stays", x.queueOf(4), 0);
        due("5: the size stays", x.size(0), 5);
        takenAre("5", x, 0, 4, 0, 1, 2, 3);
    }

    private static void lowerAtTheEdges() {
        HeapSuite x = with(0, 999, -998, 0);
        due("5: by 0", x.lower(0, 0), 999);
        due("5: by 999", x.lower(0, 999), 0);
        due("5: by 999 again", x.lower(0, 999), -999);
        due("5: below -999", x.lower(0, 1), BAD);
        due("5: by 0 at -999", x.lower(0, 0), -999);
        due("5: to -1000", x.lower(1, 2), BAD);
        due("5: the key stays when refused", x.keyOf(1), -998);
        due("5: to -999", x.lower(1, 1), -999);
        due("5: by 1000", x.lower(2, 1000), BAD);
        due("5: by -1", x.lower(2, -1), BAD);
        due("5: by the least number", x.lower(2, Integer.MIN_VALUE), BAD);
        due("5: by the greatest number", x.lower(2, Integer.MAX_VALUE), BAD);
        due("5: the key stays", x.keyOf(2), 0);
    }

    private static void lowerTestsInOrder() {
        HeapSuite x = with(0, -999);
        for (int item : NO_ITEM) {
            due("5: no item", x.lower(item, 1), BAD);
            due("5: no item, wrong d", x.lower(item, 1000), BAD);
        }
        due("5: wrong d before in no queue", x.lower(1, 1000), BAD);
        due("5: wrong d before in no queue", x.lower(1, -1), BAD);
        due("5: in no queue", x.lower(1, 999), NONE);
        x.take(0);
        due("5: in no queue before the key", x.lower(0, 1), NONE);
    }

    // Promise 6

    private static void changeMovesAnItem() {
        HeapSuite x = with(3, 10, 20, 30, 40);
        due("6: up", x.change(0, 35), 10);
        due("6: keyOf", x.keyOf(0), 35);
        firstIs("6", x, 3, 1);
        due("6: down", x.change(3, -999), 40);
        firstIs("6", x, 3, 3);
        due("6: up to the edge", x.change(3, 999), -999);
        due("6: to the same", x.change(2, 30), 30);
        due("6: the queue stays", x.queueOf(3), 3);
        due("6: the size stays", x.size(3), 4);
        takenAre("6", x, 3, 1, 2, 0, 3);
    }

    private static void changeRefuses() {
        HeapSuite x = with(0, 5);
        for (int item : NO_ITEM) {
            due("6: no item", x.change(item, 0), BAD);
        }
        for (int key : NO_KEY) {
            due("6: no key", x.change(0, key), BAD);
            due("6: no key before in no queue", x.change(1, key), BAD);
        }
        due("6: in no queue", x.change(1, 999), NONE);
        due("6: still in no queue", x.queueOf(1), NONE);
        due("6: the key stays when refused", x.keyOf(0), 5);
    }

    // Promise 7

    private static void removeFromAnyPlace() {
        int[] keys = {3, 14, 15, 9, 26, 5, 35, 8, 97, 93, 23, 84, 62, 6, 43, 38, 32, 79, 50, 28, 88, 41, 97, 16};
        for (int out = 0; out < ITEMS; out++) {
            HeapSuite x = with(1, keys);
            x.take(1);
            due("7: remove", x.remove(out), out == 0 ? NONE : 1);
            due("7: queueOf", x.queueOf(out), NONE);
            due("7: keyOf", x.keyOf(out), NONE);
            due("7: size", x.size(1), out == 0 ? 23 : 22);
            due("7: a second time", x.remove(out), NONE);
            due("7: sound", x.sound(), true);
            int before = -1000;
            for (int left = x.size(1); left > 0; left--) {
                int item = x.first(left % ENGINES, 1);
                int key = x.keyOf(item);
                due("7: in order", key >= before && item != out, true);
                before = key;
                due("7: take", x.take(1), item);
            }
        }
    }

    private static void removeRefuses() {
        HeapSuite x = with(0, 5);
        for (int item : NO_ITEM) {
            due("7: no item", x.remove(item), BAD);
        }
        due("7: in none", x.remove(23), NONE);
        due("7: answers 0 for queue 0", x.remove(0), 0);
        due("7: empty then", x.size(0), 0);
        x.insert(3, 1);
        due("7: answers 3 for queue 3", x.remove(0), 3);
    }

    // Promise 8

    private static void joinMovesAll() {
        HeapSuite x = new HeapSuite();
        int[] keys = {4, 4, 9, 1, 7, 7, 2, 0, 5, 5};
        for (int i = 0; i < keys.length; i++) {
            x.insert(i % 2 == 0 ? 0 : 3, keys[i]);
        }
        x.insert(1, -5);
        due("8: join", x.join(3, 0), 10);
        due("8: size of a", x.size(3), 10);
        due("8: size of b", x.size(0), 0);
        due("8: another queue stays", x.size(1), 1);
        for (int i = 0; i < keys.length; i++) {
            due("8: queueOf " + i, x.queueOf(i), 3);
            due("8: keyOf " + i, x.keyOf(i), keys[i]);
        }
        firstIs("8: b is empty", x, 0, NONE);
        due("8: sound", x.sound(), true);
        due("8: from an empty one", x.join(3, 0), 10);
        due("8: into an empty one", x.join(0, 3), 10);
        due("8: two empty ones", x.join(2, 3), 0);
        due("8: b is used again", x.insert(3, 3), 11);
        takenAre("8", x, 0, 7, 3, 6, 0, 1, 8, 9, 4, 5, 2);
    }

    private static void joinRefuses() {
        HeapSuite x = with(0, 1, 2);
        for (int q : NO_QUEUE) {
            due("8: no a", x.join(q, 0), BAD);
            due("8: no b", x.join(0, q), BAD);
            due("8: neither", x.join(q, q), BAD);
        }
        for (int q = 0; q < QUEUES; q++) {
            due("8: the same", x.join(q, q), BAD);
        }
        due("8: all stay", x.size(0), 2);
    }

    // Promise 9

    private static void takeUpToStopsBehindTheLimit() {
        HeapSuite x = with(2, 5, 1, 3, 5, 6, -7, 9);
        x.insert(0, 1);
        due("9: none so low", x.takeUpTo(2, -8), 0);
        due("9: exactly the limit", x.takeUpTo(2, -7), 1);
        due("9: up to 5", x.takeUpTo(2, 5), 4);
        due("9: again", x.takeUpTo(2, 5), 0);
        due("9: size", x.size(2), 2);
        due("9: taken", x.queueOf(3), NONE);
        due("9: another queue stays", x.queueOf(7), 0);
        takenAre("9", x, 2, 4, 6);
    }

    private static void takeUpToAtTheEdges() {
        HeapSuite x = with(0, 999, -999, 0);
        due("9: an empty queue", x.takeUpTo(1, 999), 0);
        for (int q : NO_QUEUE) {
            due("9: no queue", x.takeUpTo(q, 0), BAD);
        }
        due("9: far below", x.takeUpTo(0, Integer.MIN_VALUE), 0);
        due("9: -1000", x.takeUpTo(0, -1000), 0);
        due("9: -999", x.takeUpTo(0, -999), 1);
        due("9: 998", x.takeUpTo(0, 998), 1);
        due("9: far above", x.takeUpTo(0, Integer.MAX_VALUE), 1);
        due("9: all 24", with(3, new int[ITEMS]).takeUpTo(3, 0), ITEMS);
    }

    // Promise 10

    private static void sizeCounts() {
        HeapSuite x = with(1, 1, 2, 3);
        due("10: three", x.size(1), 3);
        due("10: none", x.size(0), 0);
        x.take(1);
        due("10: two", x.size(1), 2);
        x.change(1, 9);
        x.lower(2, 1);
        due("10: still two", x.size(1), 2);
        x.remove(1);
        due("10: one", x.size(1), 1);
        due("10: all", with(0, new int[ITEMS]).size(0), ITEMS);
        for (int q : NO_QUEUE) {
            due("10: no queue", x.size(q), BAD);
        }
    }

    // Promise 11

    private static void keyOfFollows() {
        HeapSuite x = with(1, -999, 999, 0);
        due("11: -999", x.keyOf(0), -999);
        due("11: 999", x.keyOf(1), 999);
        due("11: 0", x.keyOf(2), 0);
        due("11: in no queue", x.keyOf(3), NONE);
        x.remove(1);
        due("11: in no queue any more", x.keyOf(1), NONE);
        x.insert(0, 77);
        due("11: in again", x.keyOf(1), 77);
        for (int item : NO_ITEM) {
            due("11: no item", x.keyOf(item), BAD);
        }
    }

    // Promise 12

    private static void queueOfFollows() {
        HeapSuite x = new HeapSuite();
        for (int q = 0; q < QUEUES; q++) {
            x.insert(q, 0);
            due("12: queue", x.queueOf(q), q);
        }
        due("12: in none", x.queueOf(4), NONE);
        due("12: the last one in none", x.queueOf(23), NONE);
        x.join(0, 3);
        due("12: joined", x.queueOf(3), 0);
        x.takeUpTo(0, 0);
        due("12: taken", x.queueOf(3), NONE);
        for (int item : NO_ITEM) {
            due("12: no item", x.queueOf(item), BAD);
        }
    }

    // Promise 13

    private static void secondFollows() {
        HeapSuite x = with(0, 5);
        due("13: one item", x.second(0), NONE);
        due("13: empty", x.second(1), NONE);
        x.insert(0, 5);
        due("13: the same key", x.second(0), 1);
        x.insert(0, 4);
        due("13: pushed back", x.second(0), 0);
        x.insert(0, 4);
        due("13: a later one with the key of the first", x.second(0), 3);
        x.insert(1, -9);
        due("13: another queue does not count", x.second(0), 3);
        due("13: nothing is taken", x.size(0), 4);
        firstIs("13", x, 0, 2);
        for (int q : NO_QUEUE) {
            due("13: no queue", x.second(q), BAD);
        }
    }

    // Promise 14

    private static void agreeOnAllEngines() {
        HeapSuite x = new HeapSuite();
        for (int round = 0; round < 4; round++) {
            for (int one = 0; one < ENGINES; one++) {
                for (int other = 0; other < ENGINES; other++) {
                    due("14: agree(" + one + ", " + other + ")", x.agree(one, other), true);
                }
            }
            for (int i = 0; i < 5; i++) {
                x.insert((i + round) % QUEUES, 50 - 7 * i);
            }
            x.take(round);
        }
        for (int engine : NO_ENGINE) {
            for (int other = 0; other < ENGINES; other++) {
                due("14: no engine", x.agree(engine, other), false);
                due("14: no other", x.agree(other, engine), false);
            }
            due("14: neither", x.agree(engine, engine), false);
        }
    }

    // Promise 15

    private static void soundAllTheTime() {
        HeapSuite x = new HeapSuite();
        due("15: new", x.sound(), true);
        for (int i = 0; i < 40; i++) {
            x.insert(i % QUEUES, i * 37 % 101);
            due("15: insert", x.sound(), true);
            x.lower(i % ITEMS, i * 5);
            due("15: lower", x.sound(), true);
            x.change(i * 7 % ITEMS, 500 - 20 * i);
            due("15: change", x.sound(), true);
            if (i % 3 == 0) {
                x.take(i % QUEUES);
                due("15: take", x.sound(), true);
                x.remove(i * 11 % ITEMS);
                due("15: remove", x.sound(), true);
            }
            if (i % 5 == 0) {
                x.join(i % QUEUES, (i + 1) % QUEUES);
                due("15: join", x.sound(), true);
                x.takeUpTo((i + 2) % QUEUES, 0);
                due("15: takeUpTo", x.sound(), true);
            }
        }
    }

    // The face

    private static void constantsAreAsWritten() {
        due("BAD", HeapSuite.BAD, BAD);
        due("FULL", HeapSuite.FULL, FULL);
        due("NONE", HeapSuite.NONE, NONE);
    }

    private static void objectsAreApart() {
        HeapSuite x = with(0, 1, 2, 3);
        HeapSuite y = with(0, 3, 2, 1);
        firstIs("two objects", x, 0, 0);
        firstIs("two objects", y, 0, 2);
        x.take(0);
        due("two objects", y.size(0), 3);
    }
}
