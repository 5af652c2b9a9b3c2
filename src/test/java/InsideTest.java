import java.lang.reflect.Field;
import java.lang.reflect.Modifier;

/**
 * Promises 14 and 15 from the inside: sound() and agree() look at the engines instead of always
 * saying yes. One number in one array of an object is set to another value, for every place and
 * many values. If sound() still says yes, the change must have been one without harm: then all
 * engines go on naming the right items while the object is used.
 */
public final class InsideTest {
    private static final int NONE = -3000;
    private static final int ENGINES = 7;

    private static int wrong = 0;
    private static int seen = 0;
    private static int harmless = 0;

    public static void main(String[] args) throws IllegalAccessException {
        for (Field field : HeapSuite.class.getDeclaredFields()) {
            if (!Modifier.isStatic(field.getModifiers())) {
                field.setAccessible(true);
                int before = seen;
                breakEverywhere(field);
                need(seen > before, "sound() sees no fault in " + field.getName());
            }
        }
        agreeTellsEnginesApart();
        System.out.println(seen + " faults seen, " + harmless + " changes without harm, " + wrong + " wrong");
        if (wrong != 0) {
            System.exit(1);
        }
    }

    private static void need(boolean holds, String fault) {
        if (!holds) {
            wrong++;
            if (wrong <= 20) {
                System.out.println(fault);
            }
        }
    }

    private static HeapSuite used() {
        HeapSuite x = new HeapSuite();
        for (int i = 0; i < 24; i++) {
            x.insert(i % 3 == 0 ? 0 : i % 2, i * 17 % 23 - 5);
        }
        x.take(0);
        x.take(1);
        x.lower(20, 9);
        x.change(7, 14);
        x.remove(13);
        x.insert(2, 4);
        x.insert(2, 4);
        return x;
    }

    private static void breakEverywhere(Field field) throws IllegalAccessException {
        int length = ((int[]) field.get(used())).length;
        int[] farValues = {-2, 48, 1000, -1000, Integer.MIN_VALUE, Integer.MAX_VALUE};
        for (int at = 0; at < length; at++) {
            for (int value = -1; value < 48; value++) {
                breakOne(field, at, value);
            }
            for (int value : farValues) {
                breakOne(field, at, value);
            }
        }
    }

    private static void breakOne(Field field, int at, int value) throws IllegalAccessException {
        HeapSuite x = used();
        int[] values = (int[]) field.get(x);
        if (values[at] == value) {
            return;
        }
        String what = field.getName() + "[" + at + "] from " + values[at] + " to " + value;
        values[at] = value;
        try {
            if (!x.sound()) {
                seen++;
                return;
            }
            harmless++;
            useOn(x, what);
        } catch (RuntimeException e) {
            need(false, what + ": " + e);
        }
    }

    private static void useOn(HeapSuite x, String what) {
        firstsAreRight(x, what);
        x.join(1, 2);
        firstsAreRight(x, what);
        for (int i = 0; i < 12; i++) {
            x.change(i * 5 % 24, 30 - 4 * i);
            x.take(i % 2);
            x.insert(3, i % 4);
            firstsAreRight(x, what);
        }
        x.join(0, 3);
        x.join(0, 1);
        while (x.size(0) > 0) {
            firstsAreRight(x, what);
            x.take(0);
        }
    }

    private static void firstsAreRight(HeapSuite x, String what) {
        need(x.sound(), what + ": not sound later on");
        for (int q = 0; q < 4; q++) {
            int due = NONE;
            for (int item = 0; item < 24; item++) {
                if (x.queueOf(item) == q && (due == NONE || x.keyOf(item) < x.keyOf(due))) {
                    due = item;
                }
            }
            for (int engine = 0; engine < ENGINES; engine++) {
                need(x.first(engine, q) == due, what + ": engine " + engine + " names a wrong first item");
            }
        }
    }

    /** For every two engines some broken number makes them name different items, and agree() must tell. */
    private static void agreeTellsEnginesApart() throws IllegalAccessException {
        for (int engine = 0; engine < ENGINES; engine++) {
            for (int other = 0; other < ENGINES; other++) {
                HeapSuite x = used();
                need(x.agree(engine, other), "agree(" + engine + ", " + other + ") of a whole object is false");
                boolean apart = false;
                for (Field field : HeapSuite.class.getDeclaredFields()) {
                    if (!Modifier.isStatic(field.getModifiers())) {
                        field.setAccessible(true);
                        apart |= agreeFollowsFirst(field, engine, other);
                    }
                }
                need(apart == (engine != other), "no fault sets " + engine + " and " + other + " apart");
            }
        }
    }

    private static boolean agreeFollowsFirst(Field field, int engine, int other) throws IllegalAccessException {
        boolean apart = false;
        int length = ((int[]) field.get(used())).length;
        for (int at = 0; at < length; at++) {
            HeapSuite x = used();
            int[] values = (int[]) field.get(x);
            values[at] = values[at] == 0 ? 1 : values[at] - 1;
            if (values[at] < 0) {
                continue;
            }
            boolean same = true;
            for (int q = 0; q < 4; q++) {
                same &= x.first(engine, q) == x.first(other, q);
            }
            need(x.agree(engine, other) == same, "agree(" + engine + ", " + other + ") is not what first says");
            apart |= !same;
        }
        return apart;
    }
}
