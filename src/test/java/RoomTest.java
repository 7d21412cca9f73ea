import java.lang.management.ManagementFactory;
import java.lang.reflect.Array;
import java.lang.reflect.Field;
import java.lang.reflect.Modifier;
import java.util.ArrayDeque;
import java.util.Collections;
import java.util.Deque;
import java.util.IdentityHashMap;
import java.util.Set;

/** All calls of a run live in one room: an object is small when made, and its calls make none. */
public final class RoomTest {
    private static final Check CHECK = new Check("RoomTest");

    public static void main(String[] args) throws Exception {
        QuaternionDesk desk = new QuaternionDesk();
        size(desk);
        com.sun.management.ThreadMXBean room =
                (com.sun.management.ThreadMXBean) ManagementFactory.getThreadMXBean();
        // once beforehand: what the machine itself makes when a method is first run does not count
        allCalls(desk);
        long thread = Thread.currentThread().getId();
        room.getThreadAllocatedBytes(thread);
        long before = room.getThreadAllocatedBytes(thread);
        for (int i = 0; i < 512; i++) {
            allCalls(desk);
        }
        long made = room.getThreadAllocatedBytes(thread) - before;
        CHECK.isTrue("512 times all calls made " + made + " bytes", made < 4096);
        CHECK.finish();
    }

    /** All that can be reached from an object: how many objects, fields and elements. */
    private static void size(Object first) throws Exception {
        Set<Object> seen = Collections.newSetFromMap(new IdentityHashMap<>());
        Deque<Object> open = new ArrayDeque<>();
        open.add(first);
        seen.add(first);
        int elements = 0;
        while (!open.isEmpty()) {
            Object next = open.poll();
            if (next.getClass().isArray()) {
                elements += Array.getLength(next);
                for (int i = 0; !next.getClass().getComponentType().isPrimitive() && i < Array.getLength(next); i++) {
                    reach(Array.get(next, i), seen, open);
                }
                continue;
            }
            for (Field field : next.getClass().getDeclaredFields()) {
                if (Modifier.isStatic(field.getModifiers())) {
                    continue;
                }
                elements++;
                field.setAccessible(true);
                if (!field.getType().isPrimitive()) {
                    reach(field.get(next), seen, open);
                }
            }
        }
        CHECK.isTrue("an object is made of " + seen.size() + " objects", seen.size() < 300);
        CHECK.isTrue("an object has " + elements + " fields and elements", elements < 5000);
    }

    private static void reach(Object next, Set<Object> seen, Deque<Object> open) {
        CHECK.isTrue("no reference is null", next != null);
        if (next != null && seen.add(next)) {
            open.add(next);
        }
    }

    private static int allCalls(QuaternionDesk x) {
        int sum = x.erase();
        for (int i = 0; i < 200; i++) {
            sum += x.write(i % 4 < 3 ? (i % 4 == 0 ? 'a' : 'l') : i < 90 ? ';' : ' ');
        }
        sum += x.fault() + x.desk() + x.erase();
        sum += x.write('a') + x.write('l') + x.write('l') + x.desk();
        sum += x.set(0, 10, 10, 10, 0) + x.set(1, 15, 5, 1, 3) + x.set(2, 12, 0, 0, 0) + x.keep(0);
        for (int what = 0; what < 6; what++) {
            sum += x.of(0, what) + x.of(1, what) + x.of(2, what) + x.count(what) + x.rank(what);
        }
        for (int side = 0; side < 2; side++) {
            sum += x.times(3, 0, side) + x.divide(1, 2, 0, side) + x.undo() + x.common(1, 2, side) + x.undo();
            sum += x.divides(2, 0, side) + x.nearest(0, 1, side, 8) + x.steps(0, 1, side);
            sum += x.mate(0, side, 5, 0) + x.prime(2, side, -1, 0) + x.list(135, side, 239, 3);
        }
        sum += x.turn(0, 1) + x.add(0, 3) + x.factor(2, 4, 0) + x.squares(150, -2, 0) + x.turned(1, 1, 1);
        sum += x.tally(0, 6) + x.load(0, 0, 1) + x.work(0, 2, 0, 0) + x.latest() + x.drop(0) + x.back(0);
        return sum + x.number(0, 0) + x.unit(0, 0);
    }
}
