import java.lang.management.ManagementFactory;
import java.util.LinkedHashMap;
import java.util.Map;

/**
 * All calls of one run live in one room of some 600,000 objects and 7.3 million fields and
 * elements: so 512 times any call has to stay below that, with the object itself.
 */
public final class RoomTest {
    /** An object takes 16 bytes or more, a field or an element one or more: this is below both bounds. */
    private static final long MOST_BYTES = 7_000_000;
    private static final int PREPARED = 20, CALLS = 512 - PREPARED;
    private static final Check CHECK = new Check("RoomTest");

    private interface Call {
        int on(QuaternionDesk x, int k);
    }

    public static void main(String[] args) {
        Map<String, Call> calls = calls();
        // once beforehand: what the machine itself makes when a method is first run does not count
        calls.forEach((name, call) -> bytesOf(call));
        calls.forEach((name, call) -> {
            long bytes = bytesOf(call);
            CHECK.isTrue(CALLS + " times " + name + " made " + bytes + " bytes", bytes < MOST_BYTES);
        });
        CHECK.finish();
    }

    private static long made() {
        return ((com.sun.management.ThreadMXBean) ManagementFactory.getThreadMXBean())
                .getThreadAllocatedBytes(Thread.currentThread().getId());
    }

    /** How many bytes a run makes: an object, what is put in it, and then one call again and again. */
    private static long bytesOf(Call call) {
        long before = made();
        QuaternionDesk x = new QuaternionDesk();
        x.set(0, 24, 0, 0, 0);
        x.set(1, 10, 10, 14, 6);
        x.set(2, 5, 5, 3, 1);
        x.tally(0, 6);
        x.load(0, 0, 2);
        x.load(0, 1, 2);
        x.keep(0);
        for (char letter : "copy 1 1".toCharArray()) {
            x.write(letter);
        }
        for (int k = 0; k < CALLS; k++) {
            call.on(x, k);
        }
        return made() - before;
    }

    /** Each call with what is dearest for it. */
    private static Map<String, Call> calls() {
        Map<String, Call> calls = new LinkedHashMap<>();
        calls.put("write", (x, k) -> x.write(';'));
        calls.put("erase", (x, k) -> x.erase());
        calls.put("fault", (x, k) -> x.fault());
        calls.put("desk", (x, k) -> x.desk());
        calls.put("number", (x, k) -> x.number(0, 0));
        for (int what = 0; what < 6; what++) {
            int which = what;
            calls.put("of " + what, (x, k) -> x.of(0, which));
        }
        calls.put("unit", (x, k) -> x.unit(23, 0));
        calls.put("set", (x, k) -> x.set(0, 23, 3, 3, 7));
        calls.put("add", (x, k) -> x.add(0, 3));
        calls.put("times", (x, k) -> x.times(0, 3, k % 2));
        calls.put("turn", (x, k) -> x.turn(1, k % 4));
        calls.put("divide", (x, k) -> x.divide(3, 1, k % 2, 0));
        calls.put("common", (x, k) -> x.common(1, 2, k % 2));
        calls.put("undo", (x, k) -> k % 2 == 0 ? x.turn(1, 3) : x.undo());
        calls.put("keep", (x, k) -> x.keep(k % 2));
        calls.put("back", (x, k) -> x.back(0));
        calls.put("divides", (x, k) -> x.divides(2, 0, k % 2));
        calls.put("nearest", (x, k) -> x.nearest(0, 2, k % 2, 8));
        calls.put("steps", (x, k) -> x.steps(1, 0, k % 2));
        calls.put("mate", (x, k) -> x.mate(0, 0, 22, 3));
        calls.put("factor", (x, k) -> x.factor(0, 6, 0));
        calls.put("prime", (x, k) -> x.prime(0, k % 2, 4, 0));
        calls.put("list", (x, k) -> x.list(135, k % 2, 239, 0));
        calls.put("squares", (x, k) -> x.squares(150, -2, 0));
        calls.put("turned", (x, k) -> x.turned(0, 2, 2));
        calls.put("rank", (x, k) -> x.rank(k % 6));
        calls.put("tally", (x, k) -> x.tally(k % 3, 6));
        calls.put("load", (x, k) -> x.load(0, 5, 0));
        calls.put("work", (x, k) -> x.work(0, 5, 0, 1));
        calls.put("latest", (x, k) -> x.latest());
        calls.put("drop", (x, k) -> k % 2 == 0 ? x.tally(0, 6) : x.drop(0));
        calls.put("count", (x, k) -> x.count(k % 7));
        return calls;
    }
}
