import java.lang.reflect.InvocationTargetException;
import java.lang.reflect.Method;
import java.util.Arrays;
import java.util.Comparator;
import java.util.function.Supplier;
import java.util.function.ToLongFunction;

/**
 * What the tests of the edges share. Each test is a static method of its own, promiseNN and what is due there; none
 * makes more than 512 calls on one object.
 */
abstract class Edges {
    static final int NONE = BreathSold.NONE, BAD = BreathSold.BAD, NOT = BreathSold.NOT, FULL = BreathSold.FULL;
    static final int NULL_FOUND = -11, INDEX_FOUND = -12, CAST_FOUND = -13, STORE_FOUND = -14, SIZE_FOUND = -15;
    static final int SALE = 0, JOIN = 1, BREAK = 2, CORKED = 3;
    static final int BYTES = 0, SHORTS = 1, INTS = 2;
    static final int LEAST = Integer.MIN_VALUE, GREATEST = Integer.MAX_VALUE;
    static final long BAD_LONG = Long.MIN_VALUE + 2;
    static final String EIGHT = "a990s;b850s;c774n;d603s;e550n;f439s;g310n;h128s";

    /** INDEX: the finding that busy() and full() begin with, so that a call that sets it back is seen. */
    private static final int FIRST_FINDING = 2;

    private static String current = "";
    private static int wrong = 0;
    private static String busyReadOut = null;
    private static String fullReadOut = null;

    /** Runs the tests of promises first to last, and wants at least one for each. */
    static void runAll(Class<?> tests, int first, int last) throws IllegalAccessException {
        Watch.begin();
        Method[] all = tests.getDeclaredMethods();
        Arrays.sort(all, Comparator.comparing(Method::getName));
        int[] ran = new int[100];
        int sum = 0;
        for (Method test : all) {
            if (test.getName().matches("promise[0-9][0-9].*") && test.getParameterCount() == 0) {
                run(test);
                ran[Integer.parseInt(test.getName().substring(7, 9))]++;
                sum++;
            }
        }
        for (int promise = first; promise <= last; promise++) {
            current = "promise " + promise;
            due("is tested", 1, Math.min(1, ran[promise]));
        }
        System.out.println(sum + " edges, " + (wrong == 0 ? "all answers are as due" : wrong + " answers are not as due"));
        System.exit(wrong == 0 ? 0 : 1);
    }

    private static void run(Method test) throws IllegalAccessException {
        current = test.getName();
        try {
            test.setAccessible(true);
            test.invoke(null);
        } catch (InvocationTargetException e) {
            wrong++;
            System.out.println(current + " threw " + e.getCause());
        }
    }

    static void due(String what, long want, long got) {
        if (want != got) {
            wrong++;
            System.out.println(current + ": " + what + " is " + got + ", due is " + want);
        }
    }

    static void due(long want, long got) {
        due("the answer", want, got);
    }

    private static void dueText(String what, String want, String got) {
        if (!want.equals(got)) {
            wrong++;
            System.out.println(current + ": " + what + " is\n  " + got + "\n  due is\n  " + want);
        }
    }

    static void typeAll(BreathSold x, int text, String s) {
        for (int i = 0; i < s.length(); i++) {
            x.type(text, s.charAt(i));
        }
    }

    static BreathSold with(String bottles) {
        BreathSold x = new BreathSold();
        typeAll(x, 0, bottles);
        due("fault of " + bottles, NONE, x.fault(0));
        return x;
    }

    static BreathSold with(String bottles, String song) {
        BreathSold x = with(bottles);
        typeAll(x, 1, song);
        return x;
    }

    static void fill(BreathSold x, int s, int form, int... items) {
        x.sheet(s, form, items.length);
        for (int i = 0; i < items.length; i++) {
            x.put(s, form, i, items[i]);
        }
    }

    static void dueItems(BreathSold x, int s, int form, int... items) {
        for (int i = 0; i < items.length; i++) {
            due("item " + i + " of " + s, items[i], x.get(s, form, i));
        }
    }

    /** An object in the midst of its use: something of everything, and sheet 3 is lost. */
    static BreathSold busy() {
        BreathSold x = with("a999s;b805s;c700n;a120s", "ba");
        x.act(1, JOIN, 2, 0);
        x.act(6, BREAK, 1, 0);
        x.act(0, SALE, 1, 4);
        x.act(3, CORKED, 2, 0);
        x.hot(8);
        x.hot(2);
        x.burst(170);
        x.weighed(3, 1, 67);
        x.weighed(0, 0, 99);
        fill(x, 0, BYTES, 3, SALE, 0, 5, -7);
        fill(x, 1, SHORTS, 300, -300, 1);
        fill(x, 2, INTS, 70000, -70000, 2, 1);
        x.get(0, BYTES, 99);
        return x;
    }

    /** No room is left in it: texts, acts, hot days, weighings, and the items of sheets 0 to 2. */
    static BreathSold full() {
        BreathSold x = with(EIGHT, "hgfedcba");
        for (int a = 0; a < 16; a++) {
            x.act(a, a % 4, a % 8, a % 4 == JOIN ? (a + 3) % 8 : 0);
        }
        for (int i = 0; i < 8; i++) {
            x.hot(2 * i + 1);
            x.weighed(0, i, i);
        }
        for (int s = 0; s < 3; s++) {
            x.sheet(s, s, 60);
            x.put(s, s, 59, 5 + s);
        }
        x.get(0, BYTES, 99);
        return x;
    }

    /** All that can be known of an object but its latest finding; nothing is left of it then. */
    private static String readOut(BreathSold x) {
        StringBuilder all = new StringBuilder();
        for (int what = 0; what < 8; what++) {
            all.append(x.count(what)).append(' ');
        }
        all.append("digest ").append(x.digest());
        for (int s = 0; s < 4; s++) {
            all.append(" sheet ");
            for (int i : new int[] {0, 1, 2, 3, 4, 39, 40, 59}) {
                for (int form = 0; form < 3; form++) {
                    int item = x.get(s, form, i);
                    all.append(item == LEAST ? "" : form + ":" + item + " ");
                }
            }
            all.append(x.lose(s));
        }
        all.append(" hid ").append(x.hid()).append(' ').append(x.swapped(0)).append(' ').append(x.swapped(1));
        all.append(" weighed ").append(x.forget()).append(" acts");
        for (int left = x.count(4); left > 0; left--) {
            all.append(' ').append(x.back(0)).append(' ').append(x.leaked(39)).append(' ').append(x.has(39, 0));
        }
        all.append(" burst ").append(x.burst(1)).append(" hot");
        for (int left = x.count(6); left > 0; left--) {
            all.append(' ').append(x.back(1)).append(' ').append(x.leaked(39));
        }
        for (int text = 0; text < 2; text++) {
            all.append(" text");
            for (int left = x.count(2 + text); left > 0; left--) {
                all.append(' ').append(x.undo(text)).append(' ').append(x.fault(text));
            }
        }
        return all.toString();
    }

    /** The call is refused by a busy object, and changes nothing, not even the latest finding. */
    static void refused(long want, ToLongFunction<BreathSold> call) {
        refuse(Edges::busy, busyOut(), want, FIRST_FINDING, call);
    }

    /** The call is refused with a finding, whose number count(8) tells; nothing else changes. */
    static void found(long want, int number, ToLongFunction<BreathSold> call) {
        refuse(() -> busyWithAnotherFindingThan(number), busyOut(), want, number, call);
    }

    private static BreathSold busyWithAnotherFindingThan(int number) {
        BreathSold x = busy();
        if (number == FIRST_FINDING) {
            x.lose(3);
        }
        return x;
    }

    static void refusedWhenFull(long want, ToLongFunction<BreathSold> call) {
        if (fullReadOut == null) {
            fullReadOut = readOut(full());
        }
        refuse(Edges::full, fullReadOut, want, FIRST_FINDING, call);
    }

    private static String busyOut() {
        if (busyReadOut == null) {
            busyReadOut = readOut(busy());
        }
        return busyReadOut;
    }

    private static void refuse(Supplier<BreathSold> telling, String out, long want, int finding,
            ToLongFunction<BreathSold> call) {
        BreathSold x = telling.get();
        due(want, call.applyAsLong(x));
        due("the finding", finding, x.count(8));
        dueText("what is then there", out, readOut(x));
    }

    /** The call is answered, and asking changes nothing that can be known. */
    static void asked(ToLongFunction<BreathSold> call) {
        BreathSold x = busy();
        call.applyAsLong(x);
        due("the finding", FIRST_FINDING, x.count(8));
        dueText("what is then there", busyOut(), readOut(x));
    }

    /** Refused on both sides of least and greatest, and far off. */
    static void refusedBeyond(int least, int greatest, long want, Taking call) {
        for (int v : new int[] {least - 1, greatest + 1, LEAST, GREATEST}) {
            refused(want, x -> call.with(x, v));
        }
    }

    /** A call with the one number that is looked at. */
    interface Taking {
        long with(BreathSold x, int v);
    }
}
