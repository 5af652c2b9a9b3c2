import java.util.Arrays;
import java.util.function.IntUnaryOperator;
import java.util.stream.IntStream;

/**
 * Each sentence of the document that names a boundary case (too small, too large, empty, full, a
 * refused call, two things wrong at once), with a test of its own that bears the sentence's words.
 */
public final class EdgeTests {
    private static final int BAD = -1000;
    private static final int FULL = -2000;
    private static final int NONE = -3000;
    private static final int ENGINES = 7;
    private static final int QUEUES = 4;
    private static final int ITEMS = 24;
    private static final int LAST = ITEMS - 1;
    private static final int CALLS = 512;

    private static final int[] NO_QUEUE = outside(0, 3);
    private static final int[] NO_ITEM = outside(0, 23);
    private static final int[] NO_ENGINE = outside(0, 6);
    private static final int[] NO_KEY = outside(-999, 999);
    private static final int[] NO_D = outside(0, 999);

    private static int sentences = 0;
    private static int wrong = 0;
    private static String sentence = "";

    public static void main(String[] args) {
        whatItIsAndTerms();
        promise1();
        promise2();
        promise3();
        promise4();
        promise5();
        promise6();
        promise7();
        promise8();
        promise9();
        promise10();
        promise11();
        promise12();
        promise13();
        promise14();
        promise15();
        promise16();
        System.out.println(sentences + " sentences, " + wrong + " answers are not as due");
        if (wrong != 0) {
            System.exit(1);
        }
    }

    private static void holds(String words, Runnable test) {
        sentence = words;
        sentences++;
        try {
            test.run();
        } catch (RuntimeException fault) {
            report("threw " + fault);
        }
    }

    private static void report(String fault) {
        wrong++;
        System.out.println(sentence + " -- " + fault);
    }

    private static void due(String call, int got, int want) {
        if (got != want) {
            report(call + " answered " + got + ", due is " + want);
        }
    }

    private static void due(String call, boolean got, boolean want) {
        if (got != want) {
            report(call + " answered " + got + ", due is " + want);
        }
    }

    /** An object that counts its calls, as nothing is promised behind the 512th. */
    private static final class Suite {
        private final HeapSuite x = new HeapSuite();
        private int calls = 0;

        private HeapSuite counted() {
            calls++;
            if (calls == CALLS + 1) {
                report("the test itself makes more than 512 calls");
            }
            return x;
        }

        int insert(int q, int key) {
            return counted().insert(q, key);
        }

        int first(int engine, int q) {
            return counted().first(engine, q);
        }

        int take(int q) {
            return counted().take(q);
        }

        int lower(int item, int d) {
            return counted().lower(item, d);
        }

        int change(int item, int key) {
            return counted().change(item, key);
        }

        int remove(int item) {
            return counted().remove(item);
        }

        int join(int a, int b) {
            return counted().join(a, b);
        }

        int takeUpTo(int q, int limit) {
            return counted().takeUpTo(q, limit);
        }

        int size(int q) {
            return counted().size(q);
        }

        int keyOf(int item) {
            return counted().keyOf(item);
        }

        int queueOf(int item) {
            return counted().queueOf(item);
        }

        int second(int q) {
            return counted().second(q);
        }

        boolean agree(int engine, int other) {
            return counted().agree(engine, other);
        }

        boolean sound() {
            return counted().sound();
        }
    }

    // ---- numbers to ask with

    /**
     * Numbers outside a range: right beside it, one range further, at the ends of int, the answers
     * that stand for a refusal, and such that fall into the range when high bits are lost.
     */
    private static int[] outside(int least, int most) {
        int span = most - least + 1;
        IntStream near = IntStream.of(least - 1, least - 2, most + 1, most + 2,
                least - span, most - span, least + span, most + span);
        IntStream far = IntStream.of(Integer.MIN_VALUE, Integer.MIN_VALUE + 1,
                Integer.MAX_VALUE, Integer.MAX_VALUE - 1, BAD, FULL, NONE);
        IntStream cut = IntStream.range(11, 32).flatMap(bit -> IntStream.of((1 << bit) + least, (1 << bit) + most));
        return IntStream.concat(near, IntStream.concat(far, cut))
                .filter(number -> number < least || number > most)
                .distinct().toArray();
    }

    private static int[] fromTo(int least, int most) {
        return IntStream.rangeClosed(least, most).toArray();
    }

    private static int[] same(int key, int times) {
        int[] keys = new int[times];
        Arrays.fill(keys, key);
        return keys;
    }

    // ---- objects to ask

    /** Items 0, 1, .. of the given keys, all in one queue. */
    private static Suite holding(int q, int... keys) {
        Suite x = new Suite();
        for (int i = 0; i < keys.length; i++) {
            due("insert(" + q + ", " + keys[i] + ")", x.insert(q, keys[i]), i);
        }
        return x;
    }

    /** Items 0 to 9 in the queues 0 to 2, where some have the same key; queue 3 is empty. */
    private static Suite mixed() {
        Suite x = new Suite();
        for (int i = 0; i < 10; i++) {
            due("insert", x.insert(i % 3, i * 7 % 4 - 2), i);
        }
        return x;
    }

    /** All items, in all queues, item i in queue i % 4. */
    private static Suite full() {
        Suite x = new Suite();
        for (int i = 0; i < ITEMS; i++) {
            due("insert", x.insert(i % QUEUES, i * 5 % 9), i);
        }
        return x;
    }

    /** An item that has been in a queue with a key and has left it in one of three ways. */
    private static Suite[] left(int key) {
        Suite taken = holding(0, key);
        due("take(0)", taken.take(0), 0);
        Suite removed = holding(0, key);
        due("remove(0)", removed.remove(0), 0);
        Suite takenUpTo = holding(0, key);
        due("takeUpTo(0, " + key + ")", takenUpTo.takeUpTo(0, key), 1);
        return new Suite[] {taken, removed, takenUpTo};
    }

    /** A queue 1 that is empty in each way in which a queue can come to be so; 0 and 3 are empty too. */
    private static Suite[] emptied() {
        Suite taken = holding(1, 5);
        due("take(1)", taken.take(1), 0);
        Suite removed = holding(1, 5);
        due("remove(0)", removed.remove(0), 1);
        Suite joined = holding(1, 5, 4);
        due("join(2, 1)", joined.join(2, 1), 2);
        Suite takenUpTo = holding(1, 5, 4);
        due("takeUpTo(1, 5)", takenUpTo.takeUpTo(1, 5), 2);
        return new Suite[] {new Suite(), taken, removed, joined, takenUpTo};
    }

    // ---- ways to ask

    private static void firstIs(Suite x, int q, int want) {
        for (int engine = 0; engine < ENGINES; engine++) {
            due("first(" + engine + ", " + q + ")", x.first(engine, q), want);
        }
    }

    /** Takes everything out of a queue, which must be these items in this order. */
    private static void drains(Suite x, int q, int... items) {
        for (int item : items) {
            due("take(" + q + ")", x.take(q), item);
        }
        due("take(" + q + ") at the end", x.take(q), NONE);
        due("sound() at the end", x.sound(), true);
    }

    /** All that can be asked about an object's state, in 85 calls. */
    private static int[] stateOf(Suite x) {
        IntStream.Builder state = IntStream.builder();
        for (int item = 0; item < ITEMS; item++) {
            state.add(x.keyOf(item)).add(x.queueOf(item));
        }
        for (int q = 0; q < QUEUES; q++) {
            state.add(x.size(q)).add(x.second(q));
            for (int engine = 0; engine < ENGINES; engine++) {
                state.add(x.first(engine, q));
            }
        }
        return state.add(x.sound() ? 1 : 0).build().toArray();
    }

    private static void changesNothing(Suite x, Runnable calls) {
        int[] before = stateOf(x);
        calls.run();
        if (!Arrays.equals(before, stateOf(x))) {
            report("the calls have changed something");
        }
    }

    private static void each(int[] numbers, IntUnaryOperator call, int want) {
        for (int number : numbers) {
            due("the call with " + number, call.applyAsInt(number), want);
        }
    }

    /** The call is refused with BAD for each of the numbers, and leaves all as it was. */
    private static void refuses(Suite x, int[] numbers, IntUnaryOperator call) {
        changesNothing(x, () -> each(numbers, call, BAD));
    }

    // ---- What it is, the public face, Terms

    private static void whatItIsAndTerms() {
        holds("An object is used for at most 512 calls: the 512th is answered", EdgeTests::lastCallOfMany);
        holds("What later calls answer is free: but they answer", EdgeTests::callsBehindTheLast);
        holds("BAD = -1000, FULL = -2000, NONE = -3000", () -> {
            due("BAD", HeapSuite.BAD, BAD);
            due("FULL", HeapSuite.FULL, FULL);
            due("NONE", HeapSuite.NONE, NONE);
        });
        holds("There are QUEUES 0 .. 3", () -> {
            Suite x = new Suite();
            for (int q = 0; q < QUEUES; q++) {
                due("insert", x.insert(q, 10 - q), q);
            }
            for (int q = 0; q < QUEUES; q++) {
                due("size", x.size(q), 1);
                firstIs(x, q, q);
            }
        });
        holds("There are ITEMS 0 .. 23", () -> {
            Suite x = holding(2, fromTo(1, ITEMS));
            due("keyOf(0)", x.keyOf(0), 1);
            due("keyOf(23)", x.keyOf(LAST), ITEMS);
            due("keyOf(24)", x.keyOf(ITEMS), BAD);
            drains(x, 2, fromTo(0, LAST));
        });
        holds("An item is in no queue or in one", EdgeTests::inNoQueueOrInOne);
        holds("A KEY is -999 .. 999, each of them", () -> {
            for (int key = -999; key <= 999; key++) {
                Suite x = holding(key & 3, key);
                due("keyOf(0)", x.keyOf(0), key);
            }
        });
        holds("Of two items the one with the lesser key comes BEFORE: keys one apart", () -> {
            for (int key = -999; key < 999; key++) {
                Suite x = holding(0, key + 1, key);
                firstIs(x, 0, 1);
                due("second(0)", x.second(0), 0);
            }
        });
        holds("Of two items the one with the lesser key comes BEFORE: the least and the greatest", () -> {
            drains(holding(0, 999, -999), 0, 1, 0);
            drains(holding(0, -999, 999), 0, 0, 1);
        });
        holds("Of two with the same key the one with the lesser number", EdgeTests::lesserNumberFirst);
        holds("The FIRST item comes before all others: in a queue of 1 to 24", EdgeTests::firstAtEachSize);
        holds("An ENGINE is 0 .. 6; no answer depends on it: empty, mixed, full", () -> {
            for (Suite x : new Suite[] {new Suite(), mixed(), full()}) {
                for (int q = 0; q < QUEUES; q++) {
                    firstIs(x, q, x.first(0, q));
                }
            }
        });
    }

    /** 511 calls of which some are refused, and then each kind of call as the last one. */
    private static void lastCallOfMany() {
        due("insert", manyCalls().insert(3, 0), 2);
        due("first", manyCalls().first(6, 0), 1);
        due("take", manyCalls().take(0), 1);
        due("lower", manyCalls().lower(0, 999), -499);
        due("change", manyCalls().change(1, 999), 499);
        due("remove", manyCalls().remove(1), 0);
        due("join", manyCalls().join(3, 0), 2);
        due("takeUpTo", manyCalls().takeUpTo(0, 999), 2);
        due("size", manyCalls().size(0), 2);
        due("keyOf", manyCalls().keyOf(0), 500);
        due("queueOf", manyCalls().queueOf(1), 0);
        due("second", manyCalls().second(0), 0);
        due("agree", manyCalls().agree(5, 6), true);
        due("sound", manyCalls().sound(), true);
        due("a refused call", manyCalls().size(4), BAD);
    }

    /** An object with items 0 (key 500) and 1 (key 499) in queue 0, after 511 calls. */
    private static Suite manyCalls() {
        Suite x = holding(0, 500, 499);
        for (int round = 0; x.calls + 9 < CALLS; round++) {
            int q = 1 + round % 3;
            x.insert(q, round - 30);
            x.insert(q, 30 - round);
            x.insert(4, 0);
            x.lower(2, round);
            x.change(3, round);
            x.join(q, 1 + (round + 1) % 3);
            x.take(q);
            x.takeUpTo(q, 999);
        }
        for (int left = CALLS - 1 - x.calls; left > 0; left--) {
            x.size(1);
        }
        due("calls made", x.calls, CALLS - 1);
        return x;
    }

    private static void callsBehindTheLast() {
        HeapSuite x = new HeapSuite();
        int[] numbers = {0, 1, 2, 3, 4, 6, 7, 23, 24, -1, 999, -999, 1000, Integer.MIN_VALUE, Integer.MAX_VALUE};
        for (int round = 0; round < 5 * CALLS; round++) {
            int one = numbers[round % numbers.length];
            int other = numbers[round / numbers.length % numbers.length];
            x.insert(round % QUEUES, round % 1000);
            x.insert(one, other);
            x.first(one, other);
            x.lower(one, other);
            x.change(one, other);
            x.join(one, other);
            x.agree(one, other);
            x.second(one);
            x.size(one);
            x.keyOf(one);
            x.queueOf(one);
            x.sound();
            if (round % 40 == 0) {
                x.take(one);
                x.remove(other);
                x.takeUpTo(one, other);
            }
        }
    }

    private static void inNoQueueOrInOne() {
        Suite x = full();
        inQueues(x, ITEMS);
        x.join(1, 0);
        inQueues(x, ITEMS);
        x.change(0, -999);
        x.lower(LAST, 1);
        inQueues(x, ITEMS);
        x.take(1);
        inQueues(x, ITEMS - 1);
        x.insert(0, 3);
        inQueues(x, ITEMS);
    }

    private static void inQueues(Suite x, int want) {
        int[] sizes = new int[QUEUES];
        int inOne = 0;
        for (int item = 0; item < ITEMS; item++) {
            int q = x.queueOf(item);
            if (q != NONE) {
                sizes[q]++;
                inOne++;
            }
        }
        due("items in queues", inOne, want);
        for (int q = 0; q < QUEUES; q++) {
            due("size(" + q + ")", x.size(q), sizes[q]);
        }
    }

    /** Two items of the same key, for all pairs, whichever of them came to it first and how. */
    private static void lesserNumberFirst() {
        for (int low = 0; low < LAST; low++) {
            for (int high = low + 1; high < ITEMS; high++) {
                Suite inserted = holding(3, same(9, ITEMS));
                inserted.change(high, 5);
                inserted.change(low, 5);
                firstIs(inserted, 3, low);
                due("second(3)", inserted.second(3), high);

                Suite lowered = holding(3, same(9, ITEMS));
                lowered.lower(low, 4);
                lowered.lower(high, 4);
                firstIs(lowered, 3, low);
                due("second(3)", lowered.second(3), high);

                Suite joined = holding(3, same(9, ITEMS));
                joined.change(low, 5);
                joined.change(high, 5);
                joined.remove(low);
                due("insert(1, 5)", joined.insert(1, 5), low);
                due("join(3, 1)", joined.join(3, 1), ITEMS);
                firstIs(joined, 3, low);
                due("second(3)", joined.second(3), high);
            }
        }
    }

    private static void firstAtEachSize() {
        for (int size = 1; size <= ITEMS; size++) {
            for (int at = 0; at < size; at++) {
                int[] keys = same(1, size);
                keys[at] = 0;
                Suite x = holding(2, keys);
                firstIs(x, 2, at);
                due("sound()", x.sound(), true);
            }
        }
    }

    // ---- Promise 1: a new object

    private static void promise1() {
        holds("1: All queues are empty: size, first, second", () -> {
            Suite x = new Suite();
            for (int q = 0; q < QUEUES; q++) {
                due("size", x.size(q), 0);
                firstIs(x, q, NONE);
                due("second", x.second(q), NONE);
            }
        });
        holds("1: All queues are empty: no item is in one", () -> {
            Suite x = new Suite();
            for (int item = 0; item < ITEMS; item++) {
                due("queueOf", x.queueOf(item), NONE);
                due("keyOf", x.keyOf(item), NONE);
                due("remove", x.remove(item), NONE);
                due("lower", x.lower(item, 0), NONE);
                due("change", x.change(item, 0), NONE);
            }
        });
        holds("1: All queues are empty: nothing can be taken or joined", () -> {
            for (int q = 0; q < QUEUES; q++) {
                due("take", new Suite().take(q), NONE);
                due("takeUpTo", new Suite().takeUpTo(q, 999), 0);
                due("join", new Suite().join(q, (q + 1) % QUEUES), 0);
            }
        });
        holds("1: All queues are empty: also while another object holds items", () -> {
            Suite other = full();
            Suite x = new Suite();
            due("insert", x.insert(0, 0), 0);
            due("size", x.size(0), 1);
            due("size of the other", other.size(0), 6);
        });
    }

    // ---- Promise 2: insert

    private static void promise2() {
        holds("2: the item with the least number that is in no queue: 0 to 23 in turn", () -> {
            Suite x = new Suite();
            for (int item = 0; item < ITEMS; item++) {
                due("insert", x.insert(3 - item % QUEUES, -item), item);
            }
        });
        holds("2: the item with the least number that is in no queue: the only one", () -> {
            for (int item = 0; item < ITEMS; item++) {
                Suite x = full();
                due("remove", x.remove(item), item % QUEUES);
                due("insert", x.insert(0, 3), item);
                due("insert", x.insert(0, 3), FULL);
            }
        });
        holds("2: the item with the least number that is in no queue: the lesser one of two", () -> {
            for (int low = 0; low < LAST; low++) {
                for (int high = low + 1; high < ITEMS; high++) {
                    Suite x = full();
                    x.remove(low);
                    x.remove(high);
                    due("insert", x.insert(1, 3), low);
                    due("insert", x.insert(1, 3), high);
                }
            }
        });
        holds("2: an item that was taken, removed or taken up to is in no queue", () -> {
            for (Suite x : left(7)) {
                due("insert", x.insert(1, -4), 0);
                due("keyOf", x.keyOf(0), -4);
                due("queueOf", x.queueOf(0), 1);
            }
        });
        holds("2: an item that was lowered, changed or joined is still in a queue", () -> {
            Suite x = holding(0, 1, 2, 3);
            x.lower(0, 1);
            x.change(1, 9);
            x.join(2, 0);
            due("insert", x.insert(0, 0), 3);
        });
        holds("2: BAD when q is not 0 .. 3", () -> {
            for (Suite x : new Suite[] {new Suite(), mixed()}) {
                refuses(x, NO_QUEUE, q -> x.insert(q, 0));
            }
        });
        holds("2: BAD when key is not -999 .. 999", () -> {
            for (Suite x : new Suite[] {new Suite(), mixed()}) {
                refuses(x, NO_KEY, key -> x.insert(3, key));
            }
        });
        holds("2: BAD when q and key are both wrong", () -> {
            Suite x = mixed();
            refuses(x, new int[] {-1, 4}, q -> x.insert(q, -1000));
            refuses(x, new int[] {-1, 4}, q -> x.insert(q, 1000));
        });
        holds("2: not BAD at the ends of the ranges", () -> {
            due("insert(0, -999)", new Suite().insert(0, -999), 0);
            due("insert(0, 999)", new Suite().insert(0, 999), 0);
            due("insert(3, -999)", new Suite().insert(3, -999), 0);
            due("insert(3, 999)", new Suite().insert(3, 999), 0);
        });
        holds("2: FULL when all items are in queues", () -> {
            Suite spread = full();
            Suite inOne = holding(2, same(-999, ITEMS));
            Suite joined = full();
            joined.join(0, 1);
            joined.join(0, 2);
            joined.join(0, 3);
            for (Suite x : new Suite[] {spread, inOne, joined}) {
                changesNothing(x, () -> {
                    for (int q = 0; q < QUEUES; q++) {
                        due("insert", x.insert(q, -999), FULL);
                        due("insert", x.insert(q, 0), FULL);
                        due("insert", x.insert(q, 999), FULL);
                    }
                });
            }
        });
        holds("2: not FULL with 23 items, nor when one has left", () -> {
            Suite x = holding(1, same(4, LAST));
            due("the 24th insert", x.insert(1, 4), LAST);
            due("the 25th insert", x.insert(1, 4), FULL);
            due("take", x.take(1), 0);
            due("insert", x.insert(2, 4), 0);
            due("insert", x.insert(2, 4), FULL);
            due("takeUpTo", x.takeUpTo(1, 4), LAST);
            due("insert", x.insert(2, 4), 1);
        });
        holds("2: Tested in this order: a wrong q before FULL", () -> {
            Suite x = full();
            refuses(x, NO_QUEUE, q -> x.insert(q, 0));
        });
        holds("2: Tested in this order: a wrong key before FULL", () -> {
            Suite x = full();
            refuses(x, NO_KEY, key -> x.insert(0, key));
        });
        holds("2: Tested in this order: a wrong q and a wrong key before FULL", () -> {
            Suite x = full();
            refuses(x, NO_QUEUE, q -> x.insert(q, 1000));
        });
    }

    // ---- Promise 3: first

    private static void promise3() {
        holds("3: The first item of queue q: the only one, with any number", () -> {
            for (int item = 0; item < ITEMS; item++) {
                Suite x = holding(0, same(1, ITEMS));
                x.remove(item);
                due("insert", x.insert(3, 999), item);
                firstIs(x, 3, item);
            }
        });
        holds("3: NONE when it is empty", () -> {
            for (Suite x : emptied()) {
                changesNothing(x, () -> firstIs(x, 1, NONE));
            }
        });
        holds("3: NONE when it is empty: while all items are in other queues", () -> {
            for (int q = 0; q < QUEUES; q++) {
                Suite x = full();
                due("join", x.join((q + 1) % QUEUES, q), 12);
                firstIs(x, q, NONE);
            }
        });
        holds("3: BAD when there is no such queue", () -> {
            for (Suite x : new Suite[] {mixed(), full()}) {
                refuses(x, NO_QUEUE, q -> x.first(0, q));
            }
            Suite x = full();
            for (int engine = 0; engine < ENGINES; engine++) {
                due("first", x.first(engine, -1), BAD);
                due("first", x.first(engine, 4), BAD);
            }
        });
        holds("3: BAD when there is no such engine", () -> {
            for (int q = 0; q < QUEUES; q++) {
                Suite x = full();
                int asked = q;
                refuses(x, NO_ENGINE, engine -> x.first(engine, asked));
            }
        });
        holds("3: BAD when there is neither such a queue nor such an engine", () -> {
            Suite x = full();
            refuses(x, NO_ENGINE, engine -> x.first(engine, 4));
            refuses(x, new int[] {-1, 7}, engine -> x.first(engine, -1));
        });
        holds("3: an engine that is no queue, and the other way round", () -> {
            Suite x = full();
            due("first(6, 3)", x.first(6, 3), 11);
            due("first(3, 6)", x.first(3, 6), BAD);
            due("first(4, 0)", x.first(4, 0), 0);
            due("first(0, 4)", x.first(0, 4), BAD);
        });
    }

    // ---- Promise 4: take

    private static void promise4() {
        holds("4: Takes the first item out: one at a time, from 24 down to none", () -> {
            Suite x = holding(0, fromTo(-999, -999 + LAST));
            for (int item = 0; item < ITEMS; item++) {
                due("size", x.size(0), ITEMS - item);
                firstIs(x, 0, item);
                due("take", x.take(0), item);
                due("queueOf", x.queueOf(item), NONE);
                due("keyOf", x.keyOf(item), NONE);
            }
            due("size", x.size(0), 0);
        });
        holds("4: Takes the first item out: in the order of the numbers when all keys are the same", () -> {
            drains(holding(3, same(999, ITEMS)), 3, fromTo(0, LAST));
            drains(holding(3, same(-999, ITEMS)), 3, fromTo(0, LAST));
        });
        holds("4: Takes the first item out: the other queues stay", () -> {
            Suite x = full();
            due("take(3)", x.take(3), 11);
            for (int item = 0; item < ITEMS; item++) {
                due("queueOf", x.queueOf(item), item == 11 ? NONE : item % QUEUES);
            }
        });
        holds("4: NONE when it is empty", () -> {
            for (Suite x : emptied()) {
                changesNothing(x, () -> {
                    due("take(1)", x.take(1), NONE);
                    due("take(1)", x.take(1), NONE);
                });
                int free = x.size(2);
                due("insert(1, 3)", x.insert(1, 3), free);
                firstIs(x, 1, free);
            }
        });
        holds("4: BAD when there is no such queue", () -> {
            for (Suite x : new Suite[] {new Suite(), mixed(), full()}) {
                refuses(x, NO_QUEUE, x::take);
            }
        });
    }

    // ---- Promise 5: lower

    private static void promise5() {
        holds("5: d (0 .. 999): by 0 the key stays", () -> {
            Suite x = holding(0, -999, 0, 999);
            changesNothing(x, () -> {
                due("lower", x.lower(0, 0), -999);
                due("lower", x.lower(1, 0), 0);
                due("lower", x.lower(2, 0), 999);
            });
        });
        holds("5: d (0 .. 999): each of them", () -> {
            for (int d = 0; d <= 999; d++) {
                Suite x = holding(0, 0, 0);
                due("lower", x.lower(1, d), -d);
                due("keyOf", x.keyOf(1), -d);
                due("keyOf of the other", x.keyOf(0), 0);
                firstIs(x, 0, d == 0 ? 0 : 1);
            }
        });
        holds("5: d (0 .. 999): by 999 twice, from the greatest key to the least", () -> {
            Suite x = holding(3, -998, 999);
            due("lower", x.lower(1, 999), 0);
            due("lower", x.lower(1, 999), -999);
            drains(x, 3, 1, 0);
        });
        holds("5: NONE when the item is in no queue", () -> {
            Suite unused = mixed();
            changesNothing(unused, () -> each(fromTo(10, LAST), item -> unused.lower(item, 0), NONE));
            changesNothing(unused, () -> each(fromTo(10, LAST), item -> unused.lower(item, 999), NONE));
            for (Suite x : left(500)) {
                changesNothing(x, () -> due("lower", x.lower(0, 1), NONE));
            }
        });
        holds("5: BAD when there is no such item", () -> {
            for (Suite x : new Suite[] {new Suite(), mixed(), full()}) {
                refuses(x, NO_ITEM, item -> x.lower(item, 0));
                due("lower(-1, 999)", x.lower(-1, 999), BAD);
                due("lower(24, 999)", x.lower(24, 999), BAD);
            }
        });
        holds("5: BAD when d is out of range", () -> {
            for (int key : new int[] {-999, -5, 0, 999}) {
                Suite x = holding(0, key, 0);
                refuses(x, NO_D, d -> x.lower(0, d));
            }
        });
        holds("5: BAD when d is out of range, though the new key would be a key", () -> {
            for (int key : new int[] {-999, 0, 999}) {
                for (int d = key - 999; d <= key + 999; d++) {
                    if (d < 0 || d > 999) {
                        Suite x = holding(0, key);
                        due("lower(0, " + d + ")", x.lower(0, d), BAD);
                        due("keyOf", x.keyOf(0), key);
                    }
                }
            }
        });
        holds("5: BAD when the key would be below -999, and not when it would be -999", () -> {
            for (int key = -999; key <= 0; key++) {
                Suite x = holding(1, key);
                int most = key + 999;
                if (most < 999) {
                    due("lower to -1000", x.lower(0, most + 1), BAD);
                    due("lower by 999", x.lower(0, 999), BAD);
                }
                due("keyOf", x.keyOf(0), key);
                due("lower to -999", x.lower(0, most), -999);
                due("lower again", x.lower(0, 1), BAD);
                due("keyOf", x.keyOf(0), -999);
            }
        });
        holds("5: a call refused for the key changes nothing", () -> {
            Suite x = full();
            x.change(5, -998);
            x.change(9, -998);
            changesNothing(x, () -> {
                due("lower", x.lower(9, 2), BAD);
                due("lower", x.lower(5, 2), BAD);
                due("lower", x.lower(5, 999), BAD);
            });
        });
        holds("5: tested in the order: item before d", () -> {
            Suite x = mixed();
            refuses(x, NO_ITEM, item -> x.lower(item, -1));
            refuses(x, NO_ITEM, item -> x.lower(item, 1000));
        });
        holds("5: tested in the order: d before in no queue", () -> {
            Suite unused = mixed();
            refuses(unused, NO_D, d -> unused.lower(10, d));
            for (Suite x : left(0)) {
                refuses(x, NO_D, d -> x.lower(0, d));
            }
        });
        holds("5: tested in the order: in no queue before key", () -> {
            for (Suite x : left(-999)) {
                changesNothing(x, () -> each(new int[] {0, 1, 2, 999}, d -> x.lower(0, d), NONE));
            }
            for (Suite x : left(-1)) {
                due("lower(0, 999)", x.lower(0, 999), NONE);
            }
        });
        holds("5: tested in the order: d before key", () -> {
            Suite x = holding(0, -999);
            refuses(x, NO_D, d -> x.lower(0, d));
        });
    }

    // ---- Promise 6: change

    private static void promise6() {
        holds("6: Gives an item another key and answers the one that it had: from the least to the greatest", () -> {
            Suite x = holding(0, -999, 0);
            due("change", x.change(0, 999), -999);
            firstIs(x, 0, 1);
            due("change", x.change(0, -999), 999);
            firstIs(x, 0, 0);
            due("keyOf", x.keyOf(0), -999);
        });
        holds("6: Gives an item another key: each of them", () -> {
            for (int key = -999; key <= 999; key++) {
                Suite x = holding(0, 0, 0);
                due("change", x.change(1, key), 0);
                due("keyOf", x.keyOf(1), key);
                due("keyOf of the other", x.keyOf(0), 0);
                firstIs(x, 0, key < 0 ? 1 : 0);
            }
        });
        holds("6: Gives an item another key: the same one again", () -> {
            Suite x = full();
            changesNothing(x, () -> {
                for (int item = 0; item < ITEMS; item++) {
                    due("change", x.change(item, item * 5 % 9), item * 5 % 9);
                }
            });
        });
        holds("6: Gives an item another key: the first becomes the last of 24, and the last the first", () -> {
            for (int item = 0; item < ITEMS; item++) {
                Suite x = holding(1, same(0, ITEMS));
                due("change", x.change(item, -999), 0);
                firstIs(x, 1, item);
                due("change", x.change(item, 999), -999);
                firstIs(x, 1, item == 0 ? 1 : 0);
                due("takeUpTo", x.takeUpTo(1, 998), LAST);
                firstIs(x, 1, item);
            }
        });
        holds("6: NONE when it is in no queue", () -> {
            Suite unused = mixed();
            changesNothing(unused, () -> each(fromTo(10, LAST), item -> unused.change(item, -999), NONE));
            changesNothing(unused, () -> each(fromTo(10, LAST), item -> unused.change(item, 999), NONE));
            for (Suite x : left(5)) {
                changesNothing(x, () -> each(new int[] {-999, 0, 5, 999}, key -> x.change(0, key), NONE));
            }
        });
        holds("6: BAD when there is no such item", () -> {
            for (Suite x : new Suite[] {new Suite(), mixed(), full()}) {
                refuses(x, NO_ITEM, item -> x.change(item, 0));
            }
        });
        holds("6: BAD when key is not -999 .. 999", () -> {
            Suite x = full();
            refuses(x, NO_KEY, key -> x.change(0, key));
            refuses(x, NO_KEY, key -> x.change(LAST, key));
        });
        holds("6: BAD when neither the item nor the key is right", () -> {
            Suite x = mixed();
            refuses(x, NO_ITEM, item -> x.change(item, -1000));
            refuses(x, NO_ITEM, item -> x.change(item, 1000));
        });
        holds("6: tested before NONE: a wrong key for an item in no queue", () -> {
            Suite unused = mixed();
            refuses(unused, NO_KEY, key -> unused.change(10, key));
            refuses(unused, NO_KEY, key -> unused.change(LAST, key));
            for (Suite x : left(5)) {
                refuses(x, NO_KEY, key -> x.change(0, key));
            }
        });
    }

    // ---- Promise 7: remove

    private static void promise7() {
        holds("7: Takes an item out of its queue: each one of 24, and then all others come in order", () -> {
            for (int out = 0; out < ITEMS; out++) {
                Suite x = holding(2, fromTo(0, LAST));
                due("remove", x.remove(out), 2);
                due("size", x.size(2), LAST);
                int without = out;
                drains(x, 2, IntStream.range(0, ITEMS).filter(item -> item != without).toArray());
            }
        });
        holds("7: answers which one that was: each of the queues", () -> {
            for (int q = 0; q < QUEUES; q++) {
                Suite x = holding(q, 3);
                due("remove", x.remove(0), q);
                due("size", x.size(q), 0);
                firstIs(x, q, NONE);
            }
        });
        holds("7: answers which one that was: after a join the new one", () -> {
            Suite x = holding(3, 1, 2);
            x.join(0, 3);
            due("remove", x.remove(1), 0);
            due("remove", x.remove(0), 0);
        });
        holds("7: NONE when it is in none", () -> {
            Suite unused = mixed();
            changesNothing(unused, () -> each(fromTo(10, LAST), unused::remove, NONE));
            for (Suite x : left(0)) {
                changesNothing(x, () -> due("remove", x.remove(0), NONE));
            }
        });
        holds("7: BAD when there is no such item", () -> {
            for (Suite x : new Suite[] {new Suite(), mixed(), full()}) {
                refuses(x, NO_ITEM, x::remove);
            }
        });
    }

    // ---- Promise 8: join

    private static void promise8() {
        holds("8: Moves all items of queue b into queue a: for all sizes of both", EdgeTests::joinOfAllSizes);
        holds("8: Moves all items of queue b: none, when it is empty", () -> {
            Suite x = holding(0, 4, 2);
            changesNothing(x, () -> {
                due("join", x.join(0, 1), 2);
                due("join", x.join(0, 3), 2);
            });
        });
        holds("8: Moves all items of queue b into queue a: when that one is empty", () -> {
            Suite x = holding(3, 4, 2, 4);
            due("join", x.join(0, 3), 3);
            firstIs(x, 3, NONE);
            drains(x, 0, 1, 0, 2);
        });
        holds("8: Moves all items of queue b into queue a: when both are empty", () -> {
            Suite x = holding(0, 4, 2);
            changesNothing(x, () -> {
                due("join", x.join(1, 2), 0);
                due("join", x.join(3, 1), 0);
            });
        });
        holds("8: with their keys: at the ends of the range", () -> {
            Suite x = holding(1, -999, 999);
            due("join", x.join(2, 1), 2);
            due("keyOf", x.keyOf(0), -999);
            due("keyOf", x.keyOf(1), 999);
        });
        holds("8: all pairs of different queues", () -> {
            for (int a = 0; a < QUEUES; a++) {
                for (int b = 0; b < QUEUES; b++) {
                    if (a != b) {
                        Suite x = full();
                        due("join", x.join(a, b), 12);
                        for (int item = 0; item < ITEMS; item++) {
                            int q = item % QUEUES;
                            due("queueOf", x.queueOf(item), q == b ? a : q);
                            due("keyOf", x.keyOf(item), item * 5 % 9);
                        }
                        due("size of b", x.size(b), 0);
                        due("sound", x.sound(), true);
                    }
                }
            }
        });
        holds("8: BAD when a is not 0 .. 3", () -> {
            for (Suite x : new Suite[] {new Suite(), full()}) {
                refuses(x, NO_QUEUE, a -> x.join(a, 0));
                refuses(x, NO_QUEUE, a -> x.join(a, 3));
            }
        });
        holds("8: BAD when b is not 0 .. 3", () -> {
            for (Suite x : new Suite[] {new Suite(), full()}) {
                refuses(x, NO_QUEUE, b -> x.join(0, b));
                refuses(x, NO_QUEUE, b -> x.join(3, b));
            }
        });
        holds("8: BAD when neither is 0 .. 3", () -> {
            Suite x = full();
            refuses(x, NO_QUEUE, a -> x.join(a, -1));
            refuses(x, NO_QUEUE, b -> x.join(4, b));
        });
        holds("8: BAD when they are the same", () -> {
            for (Suite x : new Suite[] {new Suite(), mixed(), full()}) {
                refuses(x, fromTo(0, 3), q -> x.join(q, q));
            }
        });
        holds("8: BAD when they are the same and not 0 .. 3", () -> {
            Suite x = full();
            refuses(x, NO_QUEUE, q -> x.join(q, q));
        });
    }

    /** The items of both queues come in turns, so that after the join they lie between each other. */
    private static void joinOfAllSizes() {
        for (int inA = 0; inA <= ITEMS; inA++) {
            for (int inB = 0; inA + inB <= ITEMS; inB++) {
                Suite x = new Suite();
                int a = 0;
                int b = 0;
                for (int item = 0; item < inA + inB; item++) {
                    boolean intoA = b == inB || a < inA && item % 2 == 0;
                    a += intoA ? 1 : 0;
                    b += intoA ? 0 : 1;
                    due("insert", x.insert(intoA ? 1 : 2, -item / 2), item);
                }
                due("join", x.join(1, 2), inA + inB);
                due("size of a", x.size(1), inA + inB);
                due("size of b", x.size(2), 0);
                firstIs(x, 2, NONE);
                int[] order = IntStream.range(0, inA + inB).boxed()
                        .sorted((one, other) -> one / 2 != other / 2 ? other / 2 - one / 2 : one - other)
                        .mapToInt(Integer::intValue).toArray();
                firstIs(x, 1, order.length == 0 ? NONE : order[0]);
                due("second", x.second(1), order.length < 2 ? NONE : order[1]);
                due("sound", x.sound(), true);
                drains(x, 1, order);
            }
        }
    }

    // ---- Promise 9: takeUpTo

    private static void promise9() {
        holds("9: as long as their keys are at most limit: each limit around the keys", () -> {
            for (int limit = -1001; limit <= 1001; limit++) {
                Suite x = holding(1, 999, -1, 0, -999, 1);
                int want = (limit >= -999 ? 1 : 0) + (limit >= -1 ? 1 : 0) + (limit >= 0 ? 1 : 0)
                        + (limit >= 1 ? 1 : 0) + (limit >= 999 ? 1 : 0);
                due("takeUpTo(1, " + limit + ")", x.takeUpTo(1, limit), want);
                due("size", x.size(1), 5 - want);
                int[] order = {3, 1, 2, 4, 0};
                firstIs(x, 1, want == 5 ? NONE : order[want]);
                due("sound", x.sound(), true);
            }
        });
        holds("9: at most limit: a limit may lie outside the keys", () -> {
            Suite x = holding(0, -999, 999);
            changesNothing(x, () -> {
                due("takeUpTo", x.takeUpTo(0, -1000), 0);
                due("takeUpTo", x.takeUpTo(0, NONE), 0);
                due("takeUpTo", x.takeUpTo(0, Integer.MIN_VALUE), 0);
            });
            due("takeUpTo", holding(0, -999, 999).takeUpTo(0, 1000), 2);
            due("takeUpTo", holding(0, -999, 999).takeUpTo(0, Integer.MAX_VALUE), 2);
        });
        holds("9: Takes the first items out: as many as there are, 0 to 24", () -> {
            for (int size = 0; size <= ITEMS; size++) {
                Suite x = holding(3, same(6, size));
                due("takeUpTo below", x.takeUpTo(3, 5), 0);
                due("takeUpTo", x.takeUpTo(3, 6), size);
                due("size", x.size(3), 0);
                firstIs(x, 3, NONE);
                due("takeUpTo again", x.takeUpTo(3, 6), 0);
                due("insert", x.insert(3, 6), 0);
            }
        });
        holds("9: Takes the first items out: as many of 24 as the limit says, the others stay in order", () -> {
            for (int taken = 0; taken <= ITEMS; taken++) {
                Suite x = holding(0, fromTo(0, LAST));
                due("takeUpTo", x.takeUpTo(0, taken - 1), taken);
                for (int item = 0; item < ITEMS; item++) {
                    due("queueOf", x.queueOf(item), item < taken ? NONE : 0);
                }
                drains(x, 0, fromTo(taken, LAST));
            }
        });
        holds("9: out of queue q: the other queues stay", () -> {
            Suite x = full();
            due("takeUpTo", x.takeUpTo(2, 999), 6);
            for (int q = 0; q < QUEUES; q++) {
                due("size", x.size(q), q == 2 ? 0 : 6);
            }
        });
        holds("9: answers how many: 0 for an empty queue", () -> {
            for (Suite x : emptied()) {
                changesNothing(x, () -> {
                    due("takeUpTo", x.takeUpTo(1, 999), 0);
                    due("takeUpTo", x.takeUpTo(1, Integer.MAX_VALUE), 0);
                });
            }
        });
        holds("9: BAD when there is no such queue", () -> {
            for (Suite x : new Suite[] {new Suite(), mixed(), full()}) {
                refuses(x, NO_QUEUE, q -> x.takeUpTo(q, 999));
                due("takeUpTo", x.takeUpTo(-1, Integer.MIN_VALUE), BAD);
                due("takeUpTo", x.takeUpTo(4, Integer.MAX_VALUE), BAD);
            }
        });
    }

    // ---- Promises 10 to 13: questions

    private static void promise10() {
        holds("10: How many items are in queue q: 0 to 24", () -> {
            Suite x = new Suite();
            for (int size = 0; size < ITEMS; size++) {
                due("size", x.size(3), size);
                x.insert(3, size);
            }
            due("size", x.size(3), ITEMS);
            x.insert(3, 0);
            due("size when full", x.size(3), ITEMS);
            for (int size = ITEMS; size > 0; size--) {
                due("size", x.size(3), size);
                x.take(3);
            }
            due("size", x.size(3), 0);
        });
        holds("10: How many items are in queue q: 0 when it has become empty", () -> {
            for (Suite x : emptied()) {
                due("size", x.size(1), 0);
            }
        });
        holds("10: BAD when there is no such queue", () -> {
            for (Suite x : new Suite[] {new Suite(), mixed(), full()}) {
                refuses(x, NO_QUEUE, x::size);
            }
        });
    }

    private static void promise11() {
        holds("11: The key of an item: that of the last time it came into a queue", () -> {
            for (Suite x : left(999)) {
                due("insert", x.insert(0, -999), 0);
                due("keyOf", x.keyOf(0), -999);
            }
        });
        holds("11: NONE when it is in no queue", () -> {
            Suite unused = mixed();
            each(fromTo(10, LAST), unused::keyOf, NONE);
            for (int key : new int[] {-999, 0, 999}) {
                for (Suite x : left(key)) {
                    due("keyOf", x.keyOf(0), NONE);
                }
            }
        });
        holds("11: BAD when there is no such item", () -> {
            for (Suite x : new Suite[] {new Suite(), mixed(), full()}) {
                refuses(x, NO_ITEM, x::keyOf);
            }
        });
    }

    private static void promise12() {
        holds("12: The queue of an item: of 0 and of 23, in 0 and in 3", () -> {
            Suite x = full();
            due("queueOf", x.queueOf(0), 0);
            due("queueOf", x.queueOf(LAST), 3);
            x.join(0, 3);
            due("queueOf", x.queueOf(LAST), 0);
            x.join(3, 0);
            due("queueOf", x.queueOf(0), 3);
        });
        holds("12: NONE when it is in none", () -> {
            Suite unused = mixed();
            each(fromTo(10, LAST), unused::queueOf, NONE);
            for (Suite x : left(0)) {
                due("queueOf", x.queueOf(0), NONE);
            }
        });
        holds("12: BAD when there is no such item", () -> {
            for (Suite x : new Suite[] {new Suite(), mixed(), full()}) {
                refuses(x, NO_ITEM, x::queueOf);
            }
        });
    }

    private static void promise13() {
        holds("13: right behind the first one: wherever the two stand among 24", () -> {
            for (int top = 0; top < ITEMS; top++) {
                for (int behind = 0; behind < ITEMS; behind++) {
                    if (top != behind) {
                        int[] keys = same(999, ITEMS);
                        keys[top] = -999;
                        keys[behind] = 998;
                        due("second", holding(0, keys).second(0), behind);
                    }
                }
            }
        });
        holds("13: right behind the first one: the first one when that has been taken", () -> {
            Suite x = holding(2, 5, 3, 3, 9, 5, -999, 999, 999, 0, 3);
            for (int size = 10; size > 0; size--) {
                int behind = x.second(2);
                x.take(2);
                firstIs(x, 2, behind);
            }
        });
        holds("13: NONE when there is none: an empty queue", () -> {
            for (Suite x : emptied()) {
                changesNothing(x, () -> due("second", x.second(1), NONE));
            }
        });
        holds("13: NONE when there is none: a queue of one, with any number", () -> {
            for (int item = 0; item < ITEMS; item++) {
                Suite x = holding(0, same(1, ITEMS));
                x.remove(item);
                x.insert(3, 0);
                changesNothing(x, () -> due("second", x.second(3), NONE));
            }
        });
        holds("13: BAD when there is no such queue", () -> {
            for (Suite x : new Suite[] {new Suite(), mixed(), full()}) {
                refuses(x, NO_QUEUE, x::second);
            }
        });
    }

    // ---- Promise 14: agree

    private static void promise14() {
        holds("14: Whether two engines name the same first items: of empty queues", () -> {
            for (Suite x : emptied()) {
                allAgree(x);
            }
        });
        holds("14: Whether two engines name the same first items: of one queue alone, each", () -> {
            for (int q = 0; q < QUEUES; q++) {
                allAgree(holding(q, 3, 1, 2, 1));
            }
        });
        holds("14: Whether two engines name the same first items: when all items are in queues", () -> {
            allAgree(full());
            allAgree(holding(0, same(0, ITEMS)));
        });
        holds("14: Whether two engines name the same first items: an engine and itself", () -> {
            Suite x = mixed();
            for (int engine = 0; engine < ENGINES; engine++) {
                due("agree", x.agree(engine, engine), true);
            }
        });
        holds("14: false when the first one is none", () -> {
            for (Suite x : new Suite[] {new Suite(), full()}) {
                changesNothing(x, () -> {
                    for (int none : NO_ENGINE) {
                        due("agree(" + none + ", 0)", x.agree(none, 0), false);
                        due("agree(" + none + ", 6)", x.agree(none, 6), false);
                    }
                });
            }
        });
        holds("14: false when the other one is none", () -> {
            for (Suite x : new Suite[] {new Suite(), full()}) {
                changesNothing(x, () -> {
                    for (int none : NO_ENGINE) {
                        due("agree(0, " + none + ")", x.agree(0, none), false);
                        due("agree(6, " + none + ")", x.agree(6, none), false);
                    }
                });
            }
        });
        holds("14: false when both are none, also the same", () -> {
            for (Suite x : new Suite[] {new Suite(), full()}) {
                for (int none : NO_ENGINE) {
                    due("agree(" + none + ", " + none + ")", x.agree(none, none), false);
                    due("agree(" + none + ", 7)", x.agree(none, 7), false);
                    due("agree(-1, " + none + ")", x.agree(-1, none), false);
                }
            }
        });
    }

    private static void allAgree(Suite x) {
        for (int engine = 0; engine < ENGINES; engine++) {
            for (int other = 0; other < ENGINES; other++) {
                due("agree(" + engine + ", " + other + ")", x.agree(engine, other), true);
            }
        }
    }

    // ---- Promise 15: sound

    private static void promise15() {
        holds("15: it always is: new, emptied, full", () -> {
            due("sound", new Suite().sound(), true);
            due("sound", full().sound(), true);
            for (int key : new int[] {-999, 0, 999}) {
                due("sound", holding(0, same(key, ITEMS)).sound(), true);
            }
            for (Suite x : emptied()) {
                due("sound", x.sound(), true);
            }
        });
        holds("15: it always is: at each size on the way to full and back to empty", () -> {
            Suite x = new Suite();
            for (int i = 0; i < ITEMS; i++) {
                x.insert(1, i * 7 % 10);
                due("sound", x.sound(), true);
            }
            for (int i = 0; i <= ITEMS; i++) {
                x.take(1);
                due("sound", x.sound(), true);
            }
        });
        holds("15: it always is: after each refused call", () -> {
            for (Suite x : new Suite[] {new Suite(), mixed(), full()}) {
                refusedCall(x, "insert", x.insert(4, 0));
                refusedCall(x, "insert", x.insert(0, 1000));
                refusedCall(x, "first", x.first(7, 0));
                refusedCall(x, "take", x.take(-1));
                refusedCall(x, "lower", x.lower(24, 0));
                refusedCall(x, "lower", x.lower(0, 1000));
                refusedCall(x, "change", x.change(0, -1000));
                refusedCall(x, "remove", x.remove(-1));
                refusedCall(x, "join", x.join(0, 0));
                refusedCall(x, "takeUpTo", x.takeUpTo(4, 999));
                refusedCall(x, "second", x.second(4));
            }
        });
    }

    private static void refusedCall(Suite x, String call, int answer) {
        due(call, answer, BAD);
        due("sound() after " + call, x.sound(), true);
    }

    // ---- Promise 16: order and limits

    private static void promise16() {
        holds("16: first: no such queue is tested before the queue being empty", () -> {
            for (int engine = 0; engine < ENGINES; engine++) {
                Suite x = new Suite();
                int asked = engine;
                refuses(x, NO_QUEUE, q -> x.first(asked, q));
            }
        });
        holds("16: first: no such engine is tested before the queue being empty", () -> {
            for (int q = 0; q < QUEUES; q++) {
                Suite x = new Suite();
                int asked = q;
                refuses(x, NO_ENGINE, engine -> x.first(engine, asked));
            }
        });
        holds("16: first: no such engine is tested before the queue having become empty", () -> {
            for (Suite x : emptied()) {
                refuses(x, NO_ENGINE, engine -> x.first(engine, 1));
            }
        });
        holds("16: first: neither such a queue nor such an engine, in an empty object", () -> {
            Suite x = new Suite();
            refuses(x, NO_ENGINE, engine -> x.first(engine, -1));
            refuses(x, NO_ENGINE, engine -> x.first(engine, 4));
        });
    }
}
