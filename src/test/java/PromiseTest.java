/** Each promise by its number: ordinary inputs, edges, wrong inputs; answers worked out by hand. */
public final class PromiseTest {
    private static final int NONE = QuaternionDesk.NONE, UNKNOWN = QuaternionDesk.UNKNOWN,
            OUTSIDE = QuaternionDesk.OUTSIDE, NOT = QuaternionDesk.NOT, FULL = QuaternionDesk.FULL,
            NULL = QuaternionDesk.NULL, INDEX = QuaternionDesk.INDEX, SIZE = QuaternionDesk.SIZE,
            ZERO = QuaternionDesk.ZERO, OVER = QuaternionDesk.OVER;
    private static final int MIN = Integer.MIN_VALUE, MAX = Integer.MAX_VALUE;
    private static final Check CHECK = new Check("PromiseTest");

    private QuaternionDesk x = new QuaternionDesk();
    private String promise = "";

    public static void main(String[] args) {
        PromiseTest test = new PromiseTest();
        test.constants();
        test.told();
        test.texts();
        test.done();
        test.undone();
        test.found();
        test.listed();
        test.tallied();
        test.counted();
        CHECK.finish();
    }

    private void promise(int number) {
        promise = "promise " + number;
        x = new QuaternionDesk();
    }

    private void due(String call, int got, int want) {
        CHECK.due(promise + ": " + call, got, want);
    }

    private void dueSlot(int slot, int a, int b, int c, int d) {
        int[] want = {a, b, c, d};
        for (int i = 0; i < 4; i++) {
            due("number " + i + " of slot " + slot, x.number(slot, i), want[i]);
        }
    }

    private void write(String text) {
        for (int i = 0; i < text.length(); i++) {
            x.write(text.charAt(i));
        }
    }

    private void dueFault(String text, int want) {
        // a new object each time: one is used for at most 512 calls
        x = new QuaternionDesk();
        write(text);
        due("fault of '" + text + "'", x.fault(), want);
        // looking for a fault changes nothing
        due("letters of '" + text + "'", x.count(3), Math.min(text.length(), 200));
        due("fault of '" + text + "' again", x.fault(), want);
    }

    private void dueDesk(String text, int want) {
        x.erase();
        write(text);
        due("desk of '" + text + "'", x.desk(), want);
    }

    private void constants() {
        promise = "the face";
        int[] got = {NONE, UNKNOWN, OUTSIDE, NOT, FULL, NULL, INDEX, SIZE, ZERO, OVER};
        int[] want = {-1, -1001, -1002, -1003, -1004, -1011, -1012, -1013, -1014, -1015};
        for (int i = 0; i < want.length; i++) {
            due("constant " + i, got[i], want[i]);
        }
    }

    private void told() {
        promise(1);
        for (int slot = 0; slot < 6; slot++) {
            dueSlot(slot, 0, 0, 0, 0);
        }
        for (int what = 0; what <= 6; what++) {
            due("count " + what, x.count(what), 0);
        }
        due("latest", x.latest(), 0);

        promise(2);
        due("write 0", x.write(0), 1);
        due("write 255", x.write(255), 2);
        due("write -1", x.write(-1), OUTSIDE);
        due("write 256", x.write(256), OUTSIDE);
        for (int i = 3; i <= 200; i++) {
            due("write " + i, x.write('a'), i);
        }
        due("write the 201st", x.write('a'), FULL);
        due("write the 201st, wrong", x.write(MAX), OUTSIDE);
        due("count", x.count(3), 200);

        promise(3);
        due("erase none", x.erase(), 0);
        write("all ");
        due("erase", x.erase(), 4);
        due("erase again", x.erase(), 0);
        due("write", x.write(' '), 1);

        promise(6);
        x.set(5, 1, -3, 5, -7);
        dueSlot(5, 1, -3, 5, -7);
        due("slot 6", x.number(6, 0), UNKNOWN);
        due("slot -1", x.number(-1, 4), UNKNOWN);
        due("number 4", x.number(0, 4), OUTSIDE);
        due("number -1", x.number(0, -1), OUTSIDE);

        promise(7);
        x.set(0, -1, 1, -1, 1);
        x.set(1, 2, 2, 0, 0);
        x.set(2, 12, 12, 12, 12);
        int[][] want = {{1, 17, 0, 1, 0, 1}, {2, NONE, 1, 1, 1, 1}, {144, NONE, 1, 12, 6, 60}};
        for (int slot = 0; slot < 3; slot++) {
            for (int what = 0; what < 6; what++) {
                due("of " + slot + " " + what, x.of(slot, what), want[slot][what]);
            }
        }
        for (int what = 0; what < 6; what++) {
            due("of 0: " + what, x.of(3, what), new int[] {0, NONE, 1, NOT, NOT, NOT}[what]);
        }
        due("what 6", x.of(0, 6), OUTSIDE);
        due("what -1", x.of(3, -1), OUTSIDE);
        due("slot 6", x.of(6, -1), UNKNOWN);
        x.set(4, 10, 10, 10, 14);
        due("halves all odd", x.of(4, 3), 2);
        x.set(4, 10, 10, 10, 12);
        due("halves mixed", x.of(4, 3), 1);
        x.set(4, 6, 0, 0, 0);
        due("three times 1", x.of(4, 3), 3);
        x.set(5, 15, 15, 5, 5);
        due("norm 125", x.of(5, 0), 125);
        // 5 times (3, 3, 1, 1) of norm 5: of type (2, 1) over 5, so 5 + 6 chains
        due("chains of 125", x.of(5, 5), 11);
        x.set(5, 9, 9, 9, 9);
        due("9 times a unit over 3: 4 * (3 + 4)", x.of(5, 5), 28);

        promise(8);
        int[][] units = {{0, 2, 0, 0, 0}, {1, 1, 1, 1, 1}, {2, 1, 1, 1, -1}, {8, 1, -1, -1, -1}, {9, 0, 2, 0, 0},
            {10, 0, 0, 2, 0}, {11, 0, 0, 0, 2}, {12, 0, 0, 0, -2}, {14, 0, -2, 0, 0}, {15, -1, 1, 1, 1},
            {22, -1, -1, -1, -1}, {23, -2, 0, 0, 0}};
        for (int[] unit : units) {
            for (int i = 0; i < 4; i++) {
                due("unit " + unit[0] + " " + i, x.unit(unit[0], i), unit[i + 1]);
            }
        }
        due("unit 24", x.unit(24, 9), UNKNOWN);
        due("unit -1", x.unit(-1, 0), UNKNOWN);
        due("number 4", x.unit(23, 4), OUTSIDE);
        due("number -1", x.unit(0, -1), OUTSIDE);
    }

    private void texts() {
        promise(4);
        dueFault("", 0);
        dueFault("   ", 3);
        dueFault("all", NONE);
        dueFault("  all  ", NONE);
        dueFault("all;", 4);
        dueFault("all ; ", 6);
        dueFault(";all", 0);
        dueFault("all;;all", 4);
        dueFault("all,all", 3);
        dueFault("all all", 4);
        dueFault("all1", 3);
        dueFault("allall", 0);
        dueFault("al", 0);
        dueFault("bll", 0);
        dueFault("alm", 0);
        dueFault("but 0 1 1 1 1", 0);
        dueFault("knit 0 1", 0);
        dueFault("dopy 0 1", 0);
        dueFault("All", 0);
        dueFault("all.", 3);
        dueFault("all" + (char) 9, 3);
        dueFault("all" + (char) 0, 3);
        dueFault("all" + (char) 160, 3);
        dueFault("1", 0);
        dueFault("put", 3);
        dueFault("put ", 4);
        dueFault("put0 1 1 1 1", NONE);
        dueFault("put05 1 1 1 1", NONE);
        dueFault("put 6 1 1 1 1", 4);
        dueFault("put 005 1 1 1 1", 4);
        dueFault("put -1 1 1 1 1", 4);
        dueFault("put 0 1 1 1", 11);
        dueFault("put 0 1 1 1 1 1", 14);
        dueFault("put 0 1 1 1;all", 11);
        dueFault("put 0-1-1-1-1", NONE);
        dueFault("put 0 - 1 - 1 - 1 - 1", NONE);
        dueFault("put 0--1 1 1 1", 6);
        dueFault("put 0 1 1 1 -", 13);
        dueFault("put 0 1 1 1 - ;", 14);
        dueFault("put 0 +1 1 1 1", 6);
        dueFault("put 0 24 4 2 2", NONE);
        dueFault("put 0 24 4 4 0", 13);
        dueFault("put 0 24 4 2 -4", 14);
        dueFault("put 0 24 24 24 24", 15);
        dueFault("put 0 25 1 1 1", 6);
        dueFault("put 0 -25 1 1 1", 7);
        dueFault("put 0 1 25 1 1", 8);
        dueFault("put 0 001 1 1 1", 6);
        dueFault("put 0 01 1 1 1", NONE);
        dueFault("put 0 1 2 1 1", 8);
        dueFault("put 0 1 1 2 1", 10);
        dueFault("put 0 1 1 1 -2", 13);
        dueFault("put 0 2 1 2 2", 8);
        dueFault("put 0 2 2 2 1", 12);
        dueFault("put 0 0 0 0 -0", NONE);
        dueFault("unit 0 23", NONE);
        dueFault("unit0 0", NONE);
        dueFault("unit 0 24", 7);
        dueFault("unit 0 -1", 7);
        dueFault("unit 6 0", 5);
        dueFault("unit 0", 6);
        dueFault("unit 00", 7);
        dueFault("unit 0 1 2", 9);
        dueFault("copy 0 5", NONE);
        dueFault("copy 5 5", NONE);
        dueFault("copy 0 6", 7);
        dueFault("copy 9 0", 5);
        dueFault("copy 6 0", 5);
        dueFault("copy", 4);
        dueFault("copyunit 0 0", 0);
        dueFault("all;".repeat(23) + "all", NONE);
        dueFault("all;".repeat(24), 95);
        dueFault("all;".repeat(24) + "x", 95);
        dueFault("all;".repeat(23) + "all x", 96);
        dueFault("all" + " ".repeat(197), NONE);
        dueFault(" ".repeat(197) + "all", NONE);
        dueFault(" ".repeat(200), 200);

        promise(5);
        due("desk of none", x.desk(), NOT);
        x.set(1, 3, 1, 1, 1);
        x.set(2, 4, 0, 0, 0);
        dueDesk("put 0 - 3 1 -1 1; copy 1 0;unit 0 23; copy 3 0", 4);
        dueSlot(0, -2, 0, 0, 0);
        dueSlot(1, -3, 1, -1, 1);
        dueSlot(2, 4, 0, 0, 0);
        dueSlot(3, -2, 0, 0, 0);
        due("letters", x.count(3), 0);
        due("undo", x.undo(), NOT);
        dueDesk("all", 1);
        due("filled", x.count(0), 0);
        dueDesk("put 0 2 0 0 0;all;unit 5 9", 3);
        dueSlot(0, 0, 0, 0, 0);
        dueSlot(5, 0, 2, 0, 0);
        dueDesk("copy 2 5;put 5 24 4 2 2", 2);
        dueSlot(2, 0, 2, 0, 0);
        dueSlot(5, 24, 4, 2, 2);
        dueDesk("all;".repeat(23) + "all", 24);
        x.keep(0);
        x.keep(1);
        x.tally(0, 2);
        x.tally(2, 0);
        x.set(0, 2, 0, 0, 0);
        x.load(0, 0, 0);
        x.work(0, 0, 0, 0);
        dueDesk("unit 0 0;unit 1 1;foo", NOT);
        due("letters stay", x.erase(), 21);
        due("undo stays", x.count(2), 1);
        due("kept stays", x.count(5), 1);
        due("tallies stay", x.count(4), 2);
        dueSlot(1, 0, 0, 0, 0);
        dueDesk("unit 1 1", 1);
        dueSlot(0, 2, 0, 0, 0);
        due("nothing kept", x.count(5) + x.count(6), 0);
        due("back", x.back(0), NOT);
        due("nothing undone", x.undo(), NOT);
        due("tally 0 missing", x.drop(0), NULL);
        due("tally 2 missing", x.drop(2), NULL);
        due("the latest stays", x.latest(), 2);
    }

    private void done() {
        promise(9);
        due("all even", x.set(0, 24, -4, 2, -2), 150);
        dueSlot(0, 24, -4, 2, -2);
        due("all odd, above", x.set(1, -23, -7, -5, 1), OUTSIDE);
        due("all odd", x.set(1, -23, -7, -3, -1), 147);
        dueSlot(1, -23, -7, -3, -1);
        due("to 0", x.set(1, 0, 0, 0, 0), 0);
        due("mixed b", x.set(0, 1, 2, 1, 1), OUTSIDE);
        due("mixed c", x.set(0, 1, 1, 2, 1), OUTSIDE);
        due("mixed d", x.set(0, 1, 1, 1, 2), OUTSIDE);
        due("mixed, below", x.set(0, -1, -1, -1, -2), OUTSIDE);
        due("above", x.set(0, 24, 4, 4, 0), OUTSIDE);
        due("26", x.set(0, 26, 0, 0, 0), OUTSIDE);
        due("wrapped", x.set(0, 65536, 65536, 65536, 65536), OUTSIDE);
        due("least", x.set(0, MIN, 0, 0, 0), OUTSIDE);
        due("greatest", x.set(0, MAX, MAX, MAX, MAX), OUTSIDE);
        due("slot 6", x.set(6, 1, 2, 3, 4), UNKNOWN);
        due("slot -1", x.set(-1, 2, 0, 0, 0), UNKNOWN);
        dueSlot(0, 24, -4, 2, -2);
        due("undone", x.count(2), 3);

        promise(10);
        x.set(0, 3, 1, -1, 1);
        x.set(1, 1, 5, 1, -3);
        due("sum", x.add(0, 1), 14);
        dueSlot(0, 4, 6, 0, -2);
        dueSlot(1, 1, 5, 1, -3);
        due("of itself", x.add(1, 1), 36);
        dueSlot(1, 2, 10, 2, -6);
        x.set(2, 24, 4, 2, 2);
        due("above", x.add(2, 2), NOT);
        dueSlot(2, 24, 4, 2, 2);
        due("slot 6", x.add(6, 2), UNKNOWN);
        due("other 6", x.add(2, 6), UNKNOWN);
        due("slot -1", x.add(-1, -1), UNKNOWN);
        x.set(3, -24, -4, -2, -2);
        due("to 0", x.add(2, 3), 0);
        x.set(3, 24, 4, 2, 0);
        x.set(4, 0, 0, 0, 2);
        due("to 150", x.add(3, 4), 150);

        promise(11);
        x.set(0, 2, 4, 0, 0);
        x.set(1, 0, 0, 2, 4);
        due("left", x.times(0, 1, 0), 25);
        // (1 + 2i)(j + 2k) = j + 2k + 2k - 4j
        dueSlot(0, 0, 0, -6, 8);
        x.undo();
        due("right", x.times(0, 1, 1), 25);
        // (j + 2k)(1 + 2i) = j + 2k - 2k + 4j
        dueSlot(0, 0, 0, 10, 0);
        dueSlot(1, 0, 0, 2, 4);
        due("of itself", x.times(1, 1, 1), 25);
        dueSlot(1, -10, 0, 0, 0);
        due("above", x.times(0, 1, 0), NOT);
        dueSlot(0, 0, 0, 10, 0);
        due("side 2", x.times(0, 1, 2), OUTSIDE);
        due("side -1", x.times(0, 1, -1), OUTSIDE);
        due("other 6", x.times(0, 6, 2), UNKNOWN);
        due("slot 6", x.times(6, 0, 2), UNKNOWN);
        due("by 0", x.times(0, 5, 0), 0);

        promise(12);
        x.set(0, 1, 3, -5, 7);
        due("conjugate", x.turn(0, 0), 21);
        dueSlot(0, 1, -3, 5, -7);
        due("less", x.turn(0, 3), 21);
        dueSlot(0, -1, 3, -5, 7);
        x.set(0, 1, 1, 3, 3);
        due("head on the left", x.turn(0, 1), 5);
        // the unit (1, -1, -1, -1) makes the greatest first number, 4
        dueSlot(0, 4, 0, 0, 2);
        x.set(0, 1, 1, 3, 3);
        due("head on the right", x.turn(0, 2), 5);
        dueSlot(0, 4, 0, 2, 0);
        due("of 0", x.turn(1, 1) + x.turn(1, 2), 0);
        due("way 4", x.turn(0, 4), OUTSIDE);
        due("way -1", x.turn(0, -1), OUTSIDE);
        due("slot 6", x.turn(6, 4), UNKNOWN);

        promise(13);
        x.set(0, 7, 5, 1, 1);
        x.set(1, 4, 0, 0, 0);
        // half of it is (3.5, 2.5, 0.5, 0.5): (3, 3, 1, 1) is as near as (4, 2, 0, 0)
        due("nearest", x.divide(0, 1, 0, 0), 5);
        dueSlot(0, 4, 2, 0, 0);
        x.undo();
        due("rest", x.divide(0, 1, 1, 0), 1);
        dueSlot(0, -1, 1, 1, 1);
        x.undo();
        due("by itself", x.divide(0, 0, 0, 1), 1);
        dueSlot(0, 2, 0, 0, 0);
        x.undo();
        due("rest by itself", x.divide(0, 0, 1, 1), 0);
        due("of 0", x.divide(0, 1, 0, 1), 0);
        x.set(2, 0, 10, 2, 0);
        x.set(3, 0, 0, 2, 0);
        // on the left j x = 5i + j, x = -j(5i + j) = 5k + 1; on the right x j = 5i + j, x = 1 - 5k
        due("left", x.divide(2, 3, 0, 0), 26);
        dueSlot(2, 2, 0, 0, 10);
        x.undo();
        due("right", x.divide(2, 3, 0, 1), 26);
        dueSlot(2, 2, 0, 0, -10);
        due("by 0", x.divide(2, 5, 0, 0), NOT);
        due("way 2 by 0", x.divide(2, 5, 2, 0), OUTSIDE);
        due("way -1", x.divide(2, 3, -1, 0), OUTSIDE);
        due("side 2", x.divide(2, 5, 0, 2), OUTSIDE);
        due("side -1", x.divide(2, 3, 0, -1), OUTSIDE);
        due("slot 6", x.divide(6, 5, 2, 2), UNKNOWN);
        due("other -1", x.divide(0, -1, 2, 2), UNKNOWN);

        promise(14);
        x.set(0, 0, 10, 0, 0);
        x.set(1, 2, 4, 0, 0);
        due("left", x.common(0, 1, 0), 5);
        // 1 + 2i by -i is 2 - i, the greatest of its mates
        dueSlot(0, 4, -2, 0, 0);
        due("with 0", x.common(2, 1, 1), 5);
        dueSlot(2, 4, -2, 0, 0);
        due("0 with it", x.common(1, 5, 0), 5);
        dueSlot(1, 4, -2, 0, 0);
        due("with itself", x.common(1, 1, 1), 5);
        x.set(3, 5, 5, 3, 1);
        x.set(4, 3, 1, 1, 1);
        due("left of 15 and 3", x.common(3, 4, 0), 3);
        x.set(3, 5, 5, 3, 1);
        due("right of 15 and 3", x.common(3, 4, 1), 1);
        dueSlot(3, 2, 0, 0, 0);
        x.set(3, 0, 0, 0, 0);
        due("both 0", x.common(3, 5, 0), NOT);
        due("itself, 0", x.common(5, 5, 0), NOT);
        due("both 0, side 2", x.common(3, 5, 2), OUTSIDE);
        due("side -1", x.common(1, 2, -1), OUTSIDE);
        due("slot 6", x.common(6, 5, 2), UNKNOWN);
        due("other 6", x.common(0, 6, 2), UNKNOWN);
    }

    private void undone() {
        promise(15);
        due("none", x.undo(), NOT);
        for (int k = 1; k <= 10; k++) {
            x.set(k % 6, 2 * k, 0, 0, 0);
        }
        due("can be", x.count(2), 8);
        for (int left = 7; left >= 0; left--) {
            due("undo to " + left, x.undo(), left);
        }
        due("none", x.undo(), NOT);
        dueSlot(1, 2, 0, 0, 0);
        dueSlot(2, 4, 0, 0, 0);
        dueSlot(3, 0, 0, 0, 0);
        x.set(1, 2, 0, 0, 0);
        x.turn(0, 0);
        x.set(1, 3, 3, 3, 2);
        x.times(0, 0, 5);
        x.common(0, 0, 0);
        x.divide(0, 0, 0, 0);
        due("what changes nothing counts, what is refused does not", x.count(2), 2);
        x.set(0, 5, 3, 1, 1);
        x.add(0, 1);
        x.times(0, 2, 0);
        x.turn(0, 3);
        x.divide(0, 2, 0, 0);
        x.common(0, 2, 1);
        due("all kinds", x.undo(), 7);
        x.undo();
        x.undo();
        x.undo();
        x.undo();
        dueSlot(0, 5, 3, 1, 1);
        due("undo", x.undo(), 2);
        dueSlot(0, 0, 0, 0, 0);
        x.set(4, 1, 1, 1, 1);
        due("after undo it goes on", x.count(2), 3);
        x.undo();
        dueSlot(4, 0, 0, 0, 0);

        promise(16);
        due("k 2", x.keep(2), OUTSIDE);
        due("k -1", x.keep(-1), OUTSIDE);
        due("none filled", x.keep(1), 0);
        x.set(0, 2, 0, 0, 0);
        x.set(5, 1, 1, 1, 1);
        due("two filled", x.keep(0), 2);
        due("undo is let be", x.count(2), 2);
        x.set(0, 4, 0, 0, 0);
        due("kept over", x.keep(0), 2);
        x.set(0, 6, 0, 0, 0);
        x.back(0);
        dueSlot(0, 4, 0, 0, 0);

        promise(17);
        due("k 2", x.back(2), OUTSIDE);
        due("k -1", x.back(-1), OUTSIDE);
        due("nothing kept", x.back(0), NOT);
        x.set(0, 3, 1, 1, 1);
        x.set(1, 4, 0, 0, 0);
        x.keep(1);
        due("not that one", x.back(0), NOT);
        due("refused, so undo is let be", x.count(2), 2);
        x.set(0, 2, 0, 0, 0);
        x.set(3, 2, 0, 0, 0);
        x.tally(0, 3);
        due("back", x.back(1), 2);
        dueSlot(0, 3, 1, 1, 1);
        dueSlot(3, 0, 0, 0, 0);
        due("nothing undone", x.undo(), NOT);
        due("tallies are let be", x.count(4), 3);
        x.set(0, 0, 0, 0, 0);
        due("kept still", x.back(1), 2);
        dueSlot(0, 3, 1, 1, 1);
    }

    private void found() {
        promise(18);
        x.set(0, 3, 1, 1, 1);
        x.set(1, 5, 5, 3, 1);
        due("left", x.divides(0, 1, 0), 1);
        due("right", x.divides(0, 1, 1), 0);
        due("itself", x.divides(1, 1, 1), 1);
        due("the greater the lesser", x.divides(1, 0, 0), 0);
        due("0 what is not", x.divides(5, 0, 0), 0);
        due("what is not 0", x.divides(0, 5, 1), 1);
        due("0 itself", x.divides(5, 5, 0), 1);
        due("0 another 0", x.divides(5, 4, 1), 1);
        x.set(2, 4, 0, 0, 0);
        x.set(3, 2, 2, 0, 0);
        // 2 divides 1 + i number by number, but the halves are mixed
        due("mixed halves", x.divides(2, 3, 0), 0);
        x.set(3, 2, 2, 2, 2);
        due("odd halves", x.divides(2, 3, 0), 1);
        due("side 2", x.divides(0, 1, 2), OUTSIDE);
        due("side -1", x.divides(5, 5, -1), OUTSIDE);
        due("slot 6", x.divides(6, 0, 2), UNKNOWN);
        due("other 6", x.divides(0, 6, 2), UNKNOWN);

        promise(19);
        x.set(0, 7, 5, 1, 1);
        x.set(1, 4, 0, 0, 0);
        int[] want = {4, 2, 0, 0, -1, 1, 1, 1, 1};
        for (int i = 0; i < 9; i++) {
            due("number " + i, x.nearest(0, 1, 0, i), want[i]);
        }
        dueSlot(0, 7, 5, 1, 1);
        x.set(0, 2, 2, 0, 0);
        // half of 1 + i is as near to 1, i, 0, 1 + i and to all (1, 1, +-1, +-1)
        int[] even = {2, 2, 0, 0, -2, -2, 0, 0, 2};
        for (int i = 0; i < 9; i++) {
            due("of like ones, number " + i, x.nearest(0, 1, 1, i), even[i]);
        }
        for (int i = 0; i < 9; i++) {
            due("by itself " + i, x.nearest(0, 0, 0, i), i == 0 ? 2 : 0);
        }
        due("of 0", x.nearest(5, 0, 0, 8), 0);
        due("by 0", x.nearest(0, 5, 0, 0), NOT);
        due("i 9", x.nearest(0, 5, 0, 9), OUTSIDE);
        due("i -1", x.nearest(0, 1, 0, -1), OUTSIDE);
        due("side 2", x.nearest(0, 5, 2, 0), OUTSIDE);
        due("slot 6", x.nearest(6, 5, 2, 9), UNKNOWN);
        due("other 6", x.nearest(0, 6, 2, 9), UNKNOWN);
        due("changes nothing", x.count(2), 3);

        promise(20);
        due("both 0", x.steps(0, 1, 0), 0);
        x.set(0, 7, 5, 1, 1);
        due("by 0", x.steps(0, 1, 0), 0);
        due("of 0", x.steps(1, 0, 0), 1);
        due("itself", x.steps(0, 0, 1), 1);
        x.set(1, 4, 0, 0, 0);
        due("by 2", x.steps(0, 1, 0), 2);
        due("2 by it", x.steps(1, 0, 0), 3);
        due("side 2", x.steps(0, 1, 2), OUTSIDE);
        due("side -1", x.steps(3, 4, -1), OUTSIDE);
        due("slot 6", x.steps(6, 1, 2), UNKNOWN);
        due("other -1", x.steps(0, -1, 0), UNKNOWN);

        promise(21);
        x.set(0, 2, 4, 0, 0);
        int[] byJ = {0, 0, 2, 4};
        int[] jBy = {0, 0, 2, -4};
        for (int i = 0; i < 4; i++) {
            due("left " + i, x.mate(0, 0, 10, i), byJ[i]);
            due("right " + i, x.mate(0, 1, 10, i), jBy[i]);
            due("by 1 " + i, x.mate(0, 1, 0, i), x.number(0, i));
            due("by -1 " + i, x.mate(0, 0, 23, i), -x.number(0, i));
            due("of 0 " + i, x.mate(1, 0, 5, i), 0);
        }
        due("k 24", x.mate(0, 0, 24, 0), OUTSIDE);
        due("k -1", x.mate(0, 0, -1, 0), OUTSIDE);
        due("i 4", x.mate(0, 0, 0, 4), OUTSIDE);
        due("i -1", x.mate(0, 0, 0, -1), OUTSIDE);
        due("side 2", x.mate(0, 2, 0, 0), OUTSIDE);
        due("slot 6", x.mate(6, 2, 24, 4), UNKNOWN);
    }

    private void listed() {
        promise(22);
        due("of 0", x.factor(0, 0, 0), NOT);
        due("of 0, i 4", x.factor(0, 0, 4), OUTSIDE);
        x.set(0, 0, 0, 0, -2);
        for (int i = 0; i < 4; i++) {
            due("a unit " + i, x.factor(0, 0, i), x.number(0, i));
        }
        due("a unit's next", x.factor(0, 1, 0), NOT);
        x.set(0, 4, 4, 4, 4);
        // 4 times a unit of norm 16: 1 + i four times, (1 + i)^4 = -4
        int[] rest = {-1, -1, -1, -1};
        for (int i = 0; i < 4; i++) {
            for (int k = 0; k < 4; k++) {
                due("factor " + k + " " + i, x.factor(0, k, i), i < 2 ? 2 : 0);
            }
            due("unit " + i, x.factor(0, 4, i), rest[i]);
        }
        due("behind", x.factor(0, 5, 0), NOT);
        due("far behind", x.factor(0, MAX, 0), NOT);
        x.set(1, 16, 16, 0, 0);
        due("the seventh of 128", x.factor(1, 6, 1), 2);
        // (1 + i)^7 = 8 - 8i, and that by i is 8 + 8i
        due("its unit", x.factor(1, 7, 0), 0);
        due("its unit", x.factor(1, 7, 1), 2);
        due("behind it", x.factor(1, 8, 0), NOT);
        due("k -1", x.factor(0, -1, 0), OUTSIDE);
        due("i -1", x.factor(0, 0, -1), OUTSIDE);
        due("slot 6", x.factor(6, -1, 4), UNKNOWN);

        promise(23);
        x.set(0, 6, 0, 0, 0);
        due("how many", x.prime(0, 0, -1, 99), 4);
        for (int side = 0; side <= 1; side++) {
            for (int k = 0; k < 4; k++) {
                due("prime " + k, x.prime(0, side, k, 0), x.list(3, side, k, 0));
                due("prime " + k, x.prime(0, side, k, 3), x.list(3, side, k, 3));
            }
        }
        due("the first", x.prime(0, 0, 0, 1), 1);
        due("behind", x.prime(0, 0, 4, 0), NOT);
        x.set(1, 1, 1, 1, 1);
        due("of a unit", x.prime(1, 1, -1, 0), 0);
        due("of a unit, the first", x.prime(1, 1, 0, 0), NOT);
        x.set(2, 22, 0, 0, 0);
        due("of 11", x.prime(2, 0, -1, 0), 12);
        x.set(3, 5, 5, 3, 1);
        due("left of 15", x.prime(3, 0, 0, 1) + 10 * x.prime(3, 0, 0, 2) + 100 * x.prime(3, 0, 0, 3), 111);
        due("of 0", x.prime(5, 0, -1, 0), NOT);
        due("of 0, side 2", x.prime(5, 2, -1, 0), OUTSIDE);
        due("k -2", x.prime(0, 0, -2, 0), OUTSIDE);
        due("i 4", x.prime(5, 0, 0, 4), OUTSIDE);
        due("i -1", x.prime(0, 0, 9, -1), OUTSIDE);
        due("slot 6", x.prime(6, 2, -2, 0), UNKNOWN);

        promise(24);
        due("of 1", x.list(1, 0, -1, 0), 1);
        due("the head of 1", x.list(1, 1, 0, 0), 2);
        due("of 2", x.list(2, 0, 0, 1), 2);
        due("of 149", x.list(149, 1, -1, 0), 150);
        due("of 128", x.list(128, 1, -1, 0), 1);
        due("of 135", x.list(135, 1, -1, -5), 240);
        due("the last of 135", x.list(135, 1, 239, 0), 19);
        due("behind", x.list(135, 1, 240, 0), NOT);
        due("n 0", x.list(0, 0, -1, 0), OUTSIDE);
        due("n 151", x.list(151, 0, -1, 0), OUTSIDE);
        due("n least", x.list(MIN, 0, -1, 0), OUTSIDE);
        due("side 2", x.list(1, 2, -1, 0), OUTSIDE);
        due("k -2", x.list(1, 0, -2, 0), OUTSIDE);
        due("i 4", x.list(1, 0, 5, 4), OUTSIDE);
        due("i -1", x.list(1, 0, 0, -1), OUTSIDE);

        promise(25);
        due("rows of 0", x.squares(0, -2, 9), 1);
        due("bases of 0", x.squares(0, -1, 9), 1);
        due("base of 0", x.squares(0, 0, 0), 0);
        due("rows of 1", x.squares(1, -2, 9), 8);
        due("rows of 4", x.squares(4, -2, 9), 24);
        due("bases of 4", x.squares(4, -1, 9), 2);
        int[][] four = {{2, 0, 0, 0}, {1, 1, 1, 1}};
        for (int i = 0; i < 8; i++) {
            due("base of 4", x.squares(4, i / 4, i % 4), four[i / 4][i % 4]);
        }
        due("behind", x.squares(4, 2, 0), NOT);
        due("rows of 150", x.squares(150, -2, 9), 8 * 372);
        due("n -1", x.squares(-1, -2, 0), OUTSIDE);
        due("n 151", x.squares(151, -2, 0), OUTSIDE);
        due("k -3", x.squares(4, -3, 0), OUTSIDE);
        due("i 4", x.squares(4, 9, 4), OUTSIDE);
        due("i -1", x.squares(4, 0, -1), OUTSIDE);

        promise(26);
        x.set(0, 2, 0, 0, 2);
        // 1 + k turns i to j, j to -i, and makes all twice as long
        int[] turned = {0, 4, 0, -4, 0, 0, 0, 0, 4};
        for (int i = 0; i < 9; i++) {
            due("axis " + i / 3 + " " + i % 3, x.turned(0, i / 3, i % 3), turned[i]);
            due("by 0", x.turned(1, i / 3, i % 3), 0);
        }
        x.set(2, 24, 4, 2, 2);
        due("far", x.turned(2, 0, 0), 2 * (144 + 4 - 1 - 1));
        due("axis 3", x.turned(0, 3, 0), OUTSIDE);
        due("axis -1", x.turned(0, -1, 0), OUTSIDE);
        due("i 3", x.turned(0, 0, 3), OUTSIDE);
        due("i -1", x.turned(0, 0, -1), OUTSIDE);
        due("slot 6", x.turned(6, 3, 3), UNKNOWN);

        promise(27);
        for (int k = 0; k < 6; k++) {
            due("all 0, " + k, x.rank(k), k);
        }
        x.set(0, 1, 1, 1, 1);
        x.set(1, 2, 0, 0, 0);
        x.set(2, 1, 1, 1, -1);
        x.set(4, 1, 1, 1, 1);
        x.set(5, 12, 0, 0, 0);
        int[] order = {3, 1, 0, 4, 2, 5};
        for (int k = 0; k < 6; k++) {
            due("rank " + k, x.rank(k), order[k]);
        }
        due("k 6", x.rank(6), OUTSIDE);
        due("k -1", x.rank(-1), OUTSIDE);
    }

    private void tallied() {
        promise(28);
        due("none", x.tally(0, 0), 0);
        due("six", x.tally(2, 6), 6);
        due("seven", x.tally(2, 7), OUTSIDE);
        due("fewer than none", x.tally(2, -1), SIZE);
        due("least", x.tally(2, MIN), SIZE);
        due("tally 3", x.tally(3, 7), UNKNOWN);
        due("tally -1", x.tally(-1, -1), UNKNOWN);
        due("all", x.count(4), 6);
        x.set(0, 4, 0, 0, 0);
        x.load(2, 0, 0);
        x.load(2, 5, 0);
        due("anew", x.tally(2, 6), 6);
        for (int i = 0; i < 6; i++) {
            x.work(2, 0, i, i);
            due("0 each", x.latest(), 0);
        }

        promise(29);
        x.set(0, 4, 0, 0, 0);
        due("missing", x.load(0, 9, 0), NULL);
        x.tally(0, 3);
        due("load", x.load(0, 2, 0), 4);
        due("place 3", x.load(0, 3, 0), INDEX);
        due("place -1", x.load(0, -1, 0), INDEX);
        due("tally 3", x.load(3, 0, 0), UNKNOWN);
        due("slot 6", x.load(1, 0, 6), UNKNOWN);
        due("of 0", x.load(0, 1, 1), 0);
        x.set(0, 6, 0, 0, 0);
        x.work(0, 5, 0, 2);
        due("what it was", x.latest(), 4);
        x.tally(1, 0);
        due("no place at all", x.load(1, 0, 0), INDEX);

        promise(30);
        worked();

        promise(32);
        due("missing", x.drop(0), NULL);
        x.tally(0, 5);
        x.tally(1, 0);
        due("five", x.drop(0), 5);
        due("again", x.drop(0), NULL);
        due("none", x.drop(1), 0);
        due("none again", x.drop(1), NULL);
        due("tally 3", x.drop(3), UNKNOWN);
        due("tally -1", x.drop(-1), UNKNOWN);
        due("load", x.load(0, 0, 0), NULL);
    }

    private void worked() {
        due("missing", x.work(0, 0, 9, 9), NULL);
        x.tally(0, 4);
        x.set(0, 6, 2, 2, 2);
        x.set(1, 4, 2, 0, 0);
        x.load(0, 0, 0);
        x.load(0, 1, 1);
        // 12 and 5
        int[] want = {17, 7, 60, 2, 2, 5};
        for (int way = 0; way <= 5; way++) {
            x.load(0, 0, 0);
            due("way " + way, x.work(0, way, 0, 1), 0);
            due("latest of way " + way, x.latest(), want[way]);
            x.work(0, 5, 2, 0);
            due("place 0 of way " + way, x.latest(), want[way]);
        }
        x.work(0, 5, 2, 1);
        due("place 1 is let be", x.latest(), 5);
        due("by 0", x.work(0, 3, 1, 3), ZERO);
        due("left by 0", x.work(0, 4, 1, 3), ZERO);
        due("way 6", x.work(0, 6, 9, 9), OUTSIDE);
        due("way -1 of a missing one", x.work(1, -1, 0, 0), OUTSIDE);
        due("place 4", x.work(0, 3, 4, 3), INDEX);
        due("other place 4", x.work(0, 3, 0, 4), INDEX);
        due("place -1", x.work(0, 3, -1, 3), INDEX);
        due("other place -1", x.work(0, 3, 0, -1), INDEX);
        due("tally 3", x.work(3, 9, 0, 0), UNKNOWN);
        due("the latest is let be", x.latest(), 5);
        promise = "promise 31";
        due("latest", x.latest(), 5);
        promise = "promise 30";
        x.set(2, 0, 2, 0, 0);
        x.load(0, 2, 2);
        x.load(0, 0, 0);
        x.work(0, 3, 0, 2);
        due("by 1", x.latest(), 12);
        // -12 by 5 is cut towards 0
        x.load(0, 0, 0);
        x.work(0, 1, 3, 0);
        x.work(0, 5, 0, 3);
        x.work(0, 3, 0, 1);
        due("cut towards 0", x.latest(), -2);
        x.work(0, 4, 3, 1);
        due("what is left then", x.latest(), -2);
        overflow();
    }

    private void overflow() {
        x.tally(0, 4);
        x.set(0, 16, 16, 0, 0);
        x.set(1, 4, 0, 0, 0);
        x.set(2, 2, 0, 0, 0);
        x.load(0, 0, 0);
        x.load(0, 1, 0);
        x.load(0, 2, 1);
        // 128 to the fourth is 2^28, by 4 it is 2^30
        x.work(0, 2, 0, 1);
        x.work(0, 2, 0, 1);
        x.work(0, 2, 0, 1);
        due("2^30", x.work(0, 2, 0, 2), 0);
        due("2^30 is it", x.latest(), 1 << 30);
        due("2^30 and 2^30", x.work(0, 0, 0, 0), OVER);
        due("2^30 by 4", x.work(0, 2, 0, 2), OVER);
        due("it is let be", x.latest(), 1 << 30);
        x.work(0, 1, 3, 0);
        due("-2^31", x.work(0, 1, 3, 0), 0);
        due("-2^31 is it", x.latest(), MIN);
        due("less than that", x.work(0, 1, 3, 0), OVER);
        x.load(0, 1, 2);
        x.work(0, 1, 2, 2);
        x.work(0, 1, 2, 1);
        due("-1", x.latest(), -1);
        due("-2^31 by -1", x.work(0, 3, 3, 2), OVER);
        due("-2^31 times -1", x.work(0, 2, 3, 2), OVER);
        due("0 less -2^31", x.latest(), -1);
        due("what is left of -2^31 by -1", x.work(0, 4, 3, 2), 0);
        due("is none", x.latest(), 0);
        due("2^30 once more", x.work(0, 5, 3, 0), 0);
        due("2^30 + 2^30 - 1", x.work(0, 0, 3, 2) + x.work(0, 0, 3, 0), 0);
        due("is the greatest int", x.latest(), MAX);
    }

    private void counted() {
        promise(33);
        x.set(0, 4, 0, 0, 0);
        x.set(3, 1, 1, 1, 1);
        x.set(3, 3, 1, 1, 1);
        write("all;");
        x.tally(0, 2);
        x.tally(1, 0);
        x.tally(2, 5);
        x.keep(1);
        int[] want = {2, 7, 3, 4, 7, 0, 1};
        for (int what = 0; what < 7; what++) {
            due("count " + what, x.count(what), want[what]);
        }
        x.keep(0);
        x.drop(2);
        due("kept as 0", x.count(5), 1);
        due("fewer ints", x.count(4), 2);
        due("what 7", x.count(7), OUTSIDE);
        due("what -1", x.count(-1), OUTSIDE);
        for (int slot = 0; slot < 6; slot++) {
            x.set(slot, 24, 4, 2, 2);
        }
        due("all", x.count(1), 900);
        due("eight at most", x.count(2), 8);
    }
}
