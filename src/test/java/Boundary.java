import java.lang.reflect.InvocationTargetException;
import java.lang.reflect.Method;
import java.util.ArrayList;
import java.util.Arrays;
import java.util.Comparator;
import java.util.List;
import java.util.Set;
import java.util.TreeSet;

/**
 * Tests of boundary cases: each method named promiseNN_.. is a test of its own, run on a new
 * object, and is told by its name if it fails.
 */
abstract class Boundary {
    static final int NONE = -1, UNKNOWN = -1001, OUTSIDE = -1002, NOT = -1003, FULL = -1004,
            NULL = -1011, INDEX = -1012, SIZE = -1013, ZERO = -1014, OVER = -1015;
    static final int MIN = Integer.MIN_VALUE, MAX = Integer.MAX_VALUE;

    /** Calls that bring a new object into a state. */
    interface State {
        void make(QuaternionDesk x);
    }

    interface Call {
        int on(QuaternionDesk x);
    }

    QuaternionDesk x = new QuaternionDesk();
    private Check check;
    private String test = "";

    static void runAll(Class<? extends Boundary> kind, int... promises) throws Exception {
        Check check = new Check(kind.getSimpleName());
        Set<Integer> tested = new TreeSet<>();
        Method[] methods = kind.getDeclaredMethods();
        Arrays.sort(methods, Comparator.comparing(Method::getName));
        for (Method method : methods) {
            if (!method.getName().matches("promise\\d\\d_\\w+")) {
                continue;
            }
            tested.add(Integer.parseInt(method.getName().substring(7, 9)));
            Boundary fresh = kind.getDeclaredConstructor().newInstance();
            fresh.check = check;
            fresh.test = method.getName();
            method.setAccessible(true);
            try {
                method.invoke(fresh);
            } catch (InvocationTargetException thrown) {
                check.isTrue(method.getName() + " threw " + thrown.getCause(), false);
            }
        }
        for (int promise : promises) {
            check.isTrue("promise " + promise + " has a test", tested.contains(promise));
        }
        check.finish();
    }

    // ---- what is due

    final void due(String call, int got, int want) {
        check.due(test + ": " + call, got, want);
    }

    /** All these calls, one behind the other, answer the same. */
    final void dueEach(int want, int... got) {
        for (int k = 0; k < got.length; k++) {
            due("call " + k, got[k], want);
        }
    }

    final void dueSlot(int slot, int a, int b, int c, int d) {
        int[] want = {a, b, c, d};
        for (int i = 0; i < 4; i++) {
            due("number " + i + " of slot " + slot, x.number(slot, i), want[i]);
        }
    }

    final void fresh() {
        x = new QuaternionDesk();
    }

    static void write(QuaternionDesk x, String text) {
        for (int i = 0; i < text.length(); i++) {
            x.write(text.charAt(i));
        }
    }

    // ---- what changes nothing

    /** A call in the busy state answers this, and changes nothing. */
    final void lets(String call, int want, Call made) {
        lets(call, want, Boundary::busy, made);
    }

    /** A call in a state answers this, and changes nothing: once, and once more. */
    final void lets(String call, int want, State state, Call made) {
        lets(call, want, state, made, true);
        lets(call, want, state, made, false);
    }

    private void lets(String call, int want, State state, Call made, boolean talliesFirst) {
        QuaternionDesk called = new QuaternionDesk();
        QuaternionDesk twin = new QuaternionDesk();
        state.make(called);
        state.make(twin);
        due(call, made.on(called), want);
        due(call + ", again", made.on(called), want);
        alike(call, called, twin, talliesFirst);
    }

    /** All that can be seen of two desks is the same. Both are used up by that. */
    final void alike(String call, QuaternionDesk one, QuaternionDesk other) {
        alike(call, one, other, true);
    }

    private void alike(String call, QuaternionDesk one, QuaternionDesk other, boolean talliesFirst) {
        List<String> labels = new ArrayList<>();
        List<Integer> got = Trace.of(one, talliesFirst, labels);
        List<Integer> want = Trace.of(other, talliesFirst, new ArrayList<>());
        due(call + ", how much can be seen", got.size(), want.size());
        for (int k = 0; k < Math.min(got.size(), want.size()); k++) {
            due(call + ", then " + labels.get(k), got.get(k), want.get(k));
        }
    }

    /** A state in which every part has something to lose. */
    static void busy(QuaternionDesk x) {
        x.set(0, 3, 1, 1, 1);
        x.set(1, -4, 2, 0, 0);
        x.keep(0);
        x.set(2, 24, 4, 2, 2);
        x.set(4, 1, -1, 1, -1);
        x.keep(1);
        x.set(5, 0, 0, 10, 0);
        x.set(1, 6, 2, -2, 0);
        busyBesideSlots(x);
    }

    /** The same, but one slot is set behind all else. */
    static void busyWith(QuaternionDesk x, int slot, int a, int b, int c, int d) {
        busy(x);
        x.set(slot, a, b, c, d);
    }

    /** The same, but nothing is kept. */
    static void busyUnkept(QuaternionDesk x) {
        x.set(0, 3, 1, 1, 1);
        x.set(1, 6, 2, -2, 0);
        busyBesideSlots(x);
    }

    private static void busyBesideSlots(QuaternionDesk x) {
        x.tally(0, 4);
        x.load(0, 0, 2);
        x.load(0, 1, 0);
        x.load(0, 3, 1);
        x.tally(1, 0);
        x.work(0, 0, 1, 3);
        write(x, "unit 3 5;put 4 -2 0 0 4;copy 1 0");
    }

    /** The numbers beside 0 .. many - 1. */
    static int[] beside(int many) {
        return beside(0, many - 1);
    }

    /** The numbers beside least .. most: next to them, and far away. */
    static int[] beside(int least, int most) {
        return new int[] {least - 1, most + 1, MIN, MAX, MIN + least, 65536 + least, 256 + most};
    }
}
