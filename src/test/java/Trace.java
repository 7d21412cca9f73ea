import java.util.ArrayList;
import java.util.List;

/**
 * All that can be seen of a desk. What is changed by looking at it is looked at last: behind
 * that the desk is used up. To look at it takes calls that are refused, too: if one of these
 * changed what is looked at later, that would be the same for all desks; so there are two orders.
 */
final class Trace {
    private final QuaternionDesk x;
    private final List<String> labels;
    private final List<Integer> seen = new ArrayList<>();

    private Trace(QuaternionDesk x, List<String> labels) {
        this.x = x;
        this.labels = labels;
    }

    static List<Integer> of(QuaternionDesk x, boolean talliesFirst, List<String> labels) {
        Trace trace = new Trace(x, labels);
        trace.see("latest()", x.latest());
        for (int what = 0; what < 7; what++) {
            trace.see("count(" + what + ")", x.count(what));
        }
        trace.slots("");
        if (talliesFirst) {
            trace.tallies();
        }
        trace.past();
        for (int k = 0; k < 2; k++) {
            trace.see("back(" + k + ")", x.back(k));
            trace.slots("back(" + k + "), ");
        }
        if (!talliesFirst) {
            trace.tallies();
        }
        trace.text();
        return trace.seen;
    }

    private void see(String call, int answer) {
        labels.add(call);
        seen.add(answer);
    }

    private void slots(String ahead) {
        for (int slot = 0; slot < 6; slot++) {
            for (int i = 0; i < 4; i++) {
                see(ahead + "number(" + slot + ", " + i + ")", x.number(slot, i));
            }
        }
    }

    private void tallies() {
        for (int t = 0; t < 3; t++) {
            for (int i = 0; i < 6; i++) {
                // the place becomes what it is
                see("work(" + t + ", 5, " + i + ", " + i + ")", x.work(t, 5, i, i));
                see("place " + i + " of tally " + t, x.latest());
            }
        }
    }

    private void past() {
        for (int k = 0; k < 9; k++) {
            int left = x.undo();
            see("undo()", left);
            if (left < 0) {
                return;
            }
            slots("undo(), ");
        }
    }

    private void text() {
        see("fault()", x.fault());
        see("desk()", x.desk());
        slots("desk(), ");
    }
}
