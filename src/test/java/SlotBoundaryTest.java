/** Boundary cases of the SLOTS: a new object, what is told of them, what is done with them. */
public final class SlotBoundaryTest extends Boundary {
    private static final int[][] UNITS = {
        {2, 0, 0, 0},
        {1, 1, 1, 1}, {1, 1, 1, -1}, {1, 1, -1, 1}, {1, 1, -1, -1},
        {1, -1, 1, 1}, {1, -1, 1, -1}, {1, -1, -1, 1}, {1, -1, -1, -1},
        {0, 2, 0, 0}, {0, 0, 2, 0}, {0, 0, 0, 2}, {0, 0, 0, -2}, {0, 0, -2, 0}, {0, -2, 0, 0},
        {-1, 1, 1, 1}, {-1, 1, 1, -1}, {-1, 1, -1, 1}, {-1, 1, -1, -1},
        {-1, -1, 1, 1}, {-1, -1, 1, -1}, {-1, -1, -1, 1}, {-1, -1, -1, -1},
        {-2, 0, 0, 0}};

    public static void main(String[] args) throws Exception {
        runAll(SlotBoundaryTest.class, 1, 6, 7, 8, 9, 10, 11, 12, 13, 14, 15, 16, 17);
    }

    /** One call with each wrong slot, each of which is UNKNOWN; the others are as told or not. */
    private interface OfSlot {
        int on(QuaternionDesk x, int slot);
    }

    private void unknownSlots(String call, OfSlot made) {
        for (int slot : beside(6)) {
            lets(call + " of slot " + slot, UNKNOWN, d -> made.on(d, slot));
        }
    }

    private void outside(String call, int[] wrong, OfSlot made) {
        for (int number : wrong) {
            lets(call + " " + number, OUTSIDE, d -> made.on(d, number));
        }
    }

    private void put(int slot, int a, int b, int c, int d, int norm) {
        due("set", x.set(slot, a, b, c, d), norm);
    }

    // ---- a new object

    void promise01_allSlotsAre0AtFirst() {
        for (int slot = 0; slot < 6; slot++) {
            dueSlot(slot, 0, 0, 0, 0);
            due("norm of " + slot, x.of(slot, 0), 0);
        }
    }

    void promise01_nothingElseIsThereAtFirst() {
        for (int what = 0; what < 7; what++) {
            due("count " + what, x.count(what), 0);
        }
        due("latest", x.latest(), 0);
        dueEach(NOT, x.undo(), x.back(0), x.back(1), x.desk());
        dueEach(NULL, x.drop(0), x.drop(1), x.drop(2));
        dueEach(0, x.erase(), x.fault());
    }

    void promise01_twoObjectsHaveNothingInCommon() {
        QuaternionDesk other = new QuaternionDesk();
        busy(other);
        alike("a new object", x, new QuaternionDesk());
    }

    // ---- number

    void promise06_theFirstAndTheLastSlotAndNumber() {
        x.set(0, 24, 4, 2, -2);
        x.set(5, -1, 3, 5, -7);
        dueSlot(0, 24, 4, 2, -2);
        dueSlot(5, -1, 3, 5, -7);
    }

    void promise06_noSuchSlotIsUnknown() {
        unknownSlots("number 0", (d, slot) -> d.number(slot, 0));
        unknownSlots("number 3", (d, slot) -> d.number(slot, 3));
    }

    void promise06_numbers0To3AreToldOthersAreOutside() {
        outside("number", beside(4), (d, i) -> d.number(0, i));
        outside("number", beside(4), (d, i) -> d.number(5, i));
    }

    void promise06_unknownIsAheadOfOutside() {
        unknownSlots("number 4", (d, slot) -> d.number(slot, 4));
        unknownSlots("number -1", (d, slot) -> d.number(slot, -1));
    }

    void promise06_toAskChangesNothing() {
        lets("number", 6, d -> d.number(1, 0));
    }

    // ---- of

    void promise07_theLeastAndTheGreatestNorm() {
        due("of 0", x.of(0, 0), 0);
        put(0, -1, -1, -1, -1, 1);
        due("of a unit", x.of(0, 0), 1);
        put(5, -2, -2, -4, -24, 150);
        due("the greatest", x.of(5, 0), 150);
    }

    void promise07_eachUnitIsToldByItsNumber() {
        for (int k = 0; k < 24; k++) {
            fresh();
            x.set(0, UNITS[k][0], UNITS[k][1], UNITS[k][2], UNITS[k][3]);
            due("unit " + k, x.of(0, 1), k);
        }
    }

    void promise07_whatIsNoUnitIsNone() {
        due("0", x.of(0, 1), NONE);
        put(0, 2, 2, 0, 0, 2);
        due("norm 2", x.of(0, 1), NONE);
        put(0, 4, 0, 0, 0, 4);
        due("twice a unit", x.of(0, 1), NONE);
        put(0, 2, 2, 2, 2, 4);
        due("twice another", x.of(0, 1), NONE);
    }

    void promise07_allEvenIs1() {
        due("0", x.of(0, 2), 1);
        put(0, -2, 0, 0, 0, 1);
        due("even", x.of(0, 2), 1);
    }

    void promise07_allOddIs0() {
        put(0, 1, 1, 1, 1, 1);
        due("odd", x.of(0, 2), 0);
        put(0, -1, -3, -1, -1, 3);
        due("odd, below 0", x.of(0, 2), 0);
    }

    void promise07_contentIs1To12() {
        int[][] rows = {{2, 0, 0, 0, 1}, {1, 1, 1, 1, 1}, {-1, 1, -1, 1, 1}, {24, 0, 0, 0, 12}, {0, 0, 0, -24, 12},
            {12, 12, 12, 12, 12}, {-12, 12, -12, 12, 12}, {11, 11, 11, 11, 11}, {22, 0, 0, 0, 11}, {24, 4, 2, 2, 1}};
        contents(rows);
    }

    void promise07_contentAsksForAQuaternionThatIsWholeOrHalf() {
        // (2, 2, 0, 0) is twice (1, 1, 0, 0), which is none; (2, 2, 2, 2) is twice a unit
        int[][] rows = {{2, 2, 0, 0, 1}, {2, 2, 2, 0, 1}, {2, 2, 2, 2, 2}, {6, 6, 6, 0, 3}, {6, 2, 2, 2, 2},
            {0, 4, 4, 0, 2}, {3, 3, 3, 3, 3}, {9, 3, 3, 3, 3}, {6, 0, 0, 0, 3}, {10, 10, 10, 0, 5}, {12, 12, 0, 0, 6}};
        contents(rows);
    }

    void promise07_contentAsksForEachNumber() {
        int[][] rows = {{3, 3, 3, 3, 3}, {1, 3, 3, 3, 1}, {3, 1, 3, 3, 1}, {3, 3, 1, 3, 1}, {3, 3, 3, 1, 1},
            {6, 6, 0, 0, 3}, {2, 6, 0, 0, 1}, {6, 2, 0, 0, 1}, {6, 0, 2, 0, 1}, {6, 0, 0, 2, 1}};
        contents(rows);
    }

    void promise07_contentAsksWhetherAllAreEvenOrAllOddThen() {
        int[][] rows = {{2, 2, 2, 2, 2}, {4, 2, 2, 2, 1}, {2, 4, 2, 2, 1}, {2, 2, 4, 2, 1}, {2, 2, 2, 4, 1},
            {4, 4, 2, 2, 1}, {4, 2, 4, 2, 1}, {4, 2, 2, 4, 1}, {4, 4, 4, 4, 4}, {4, 4, 4, 8, 2}};
        contents(rows);
    }

    private void contents(int[][] rows) {
        for (int[] row : rows) {
            x.set(0, row[0], row[1], row[2], row[3]);
            due("content of " + row[0] + " " + row[1] + " " + row[2] + " " + row[3], x.of(0, 3), row[4]);
        }
    }

    void promise07_factorsAre0To7() {
        put(0, 0, 0, 0, -2, 1);
        due("of a unit", x.of(0, 4), 0);
        put(0, 2, -2, 0, 0, 2);
        due("of norm 2", x.of(0, 4), 1);
        put(0, 24, 4, 2, 0, 149);
        due("of norm 149", x.of(0, 4), 1);
        put(0, 22, 0, 0, 0, 121);
        due("of norm 121", x.of(0, 4), 2);
        put(0, 24, 4, 2, 2, 150);
        due("of norm 150", x.of(0, 4), 4);
        put(0, 24, 0, 0, 0, 144);
        due("of norm 144", x.of(0, 4), 6);
        put(0, 16, -16, 0, 0, 128);
        due("of norm 128", x.of(0, 4), 7);
    }

    void promise07_chainsOfAUnitAreOne() {
        for (int k = 0; k < 24; k++) {
            fresh();
            x.set(0, UNITS[k][0], UNITS[k][1], UNITS[k][2], UNITS[k][3]);
            due("unit " + k, x.of(0, 5), 1);
        }
    }

    void promise07_chainsOfAPrimeNormAreOne() {
        put(0, 0, 2, 0, 2, 2);
        due("norm 2", x.of(0, 5), 1);
        put(0, -1, 3, 1, 1, 3);
        due("norm 3", x.of(0, 5), 1);
        put(0, 24, 4, 2, 0, 149);
        due("norm 149", x.of(0, 5), 1);
    }

    void promise07_chainsOfMoreFactors() {
        put(0, 16, 16, 0, 0, 128);
        due("over 2 there is one head alone", x.of(0, 5), 1);
        put(0, 8, 6, 4, 2, 30);
        due("three primes in six orders", x.of(0, 5), 6);
        put(0, 22, 0, 0, 0, 121);
        due("12 heads of norm 11", x.of(0, 5), 12);
        put(0, 24, 0, 0, 0, 144);
        due("four 2, two 3: 15 orders, 4 heads of norm 3", x.of(0, 5), 60);
    }

    void promise07_numbers0To5AreToldOthersAreOutside() {
        outside("of", beside(6), (d, what) -> d.of(0, what));
    }

    void promise07_noSuchSlotIsUnknown() {
        unknownSlots("of", (d, slot) -> d.of(slot, 0));
        unknownSlots("of", (d, slot) -> d.of(slot, 5));
    }

    void promise07_of0ContentFactorsAndChainsAreNot() {
        for (int what = 3; what <= 5; what++) {
            int which = what;
            lets("of 0: " + what, NOT, d -> d.of(3, which));
        }
    }

    void promise07_unknownIsAheadOfOutside() {
        unknownSlots("of, what -1", (d, slot) -> d.of(slot, -1));
        unknownSlots("of, what 6", (d, slot) -> d.of(slot, 6));
    }

    void promise07_outsideIsAheadOfNot() {
        outside("of 0, what", beside(6), (d, what) -> d.of(3, what));
    }

    void promise07_toAskChangesNothing() {
        int[] want = {3, NONE, 0, 1, 1, 1};
        for (int what = 0; what < 6; what++) {
            int which = what;
            lets("of " + what, want[what], d -> d.of(0, which));
        }
    }

    // ---- unit

    void promise08_the24UnitsFromTheGreatest() {
        for (int k = 0; k < 24; k++) {
            for (int i = 0; i < 4; i++) {
                due("unit " + k + ", number " + i, x.unit(k, i), UNITS[k][i]);
            }
        }
    }

    void promise08_noSuchUnitIsUnknown() {
        for (int unit : beside(24)) {
            lets("unit " + unit, UNKNOWN, d -> d.unit(unit, 0));
        }
    }

    void promise08_numbers0To3AreToldOthersAreOutside() {
        outside("unit 0, number", beside(4), (d, i) -> d.unit(0, i));
        outside("unit 23, number", beside(4), (d, i) -> d.unit(23, i));
    }

    void promise08_unknownIsAheadOfOutside() {
        for (int unit : beside(24)) {
            lets("unit " + unit, UNKNOWN, d -> d.unit(unit, 4));
            lets("unit " + unit, UNKNOWN, d -> d.unit(unit, -1));
        }
    }

    // ---- set

    void promise09_aNormOf150MayBe() {
        put(0, 24, 4, 2, 2, 150);
        put(5, -2, -2, -4, -24, 150);
        put(1, 0, 20, -10, 10, 150);
        dueSlot(0, 24, 4, 2, 2);
        dueSlot(5, -2, -2, -4, -24);
        dueSlot(1, 0, 20, -10, 10);
    }

    void promise09_allOddTheGreatestNormIs149() {
        put(0, 23, 7, 3, -3, 149);
        dueSlot(0, 23, 7, 3, -3);
    }

    void promise09_aNormOf151IsOutside() {
        outsideSet(22, 10, 4, 2);
        outsideSet(-2, -4, 10, -22);
        outsideSet(23, 5, 5, 5);
        outsideSet(-5, -5, -23, 5);
    }

    private void outsideSet(int a, int b, int c, int d) {
        lets("set " + a + " " + b + " " + c + " " + d, OUTSIDE, desk -> desk.set(0, a, b, c, d));
    }

    void promise09_oneGreatNumberIsOutside() {
        for (int great : new int[] {25, 26, -25, -26, 1000, 65536, -65536, 46341, MAX, MIN, MIN + 1}) {
            int like = great & 1;
            outsideSet(great, like, like, like);
            outsideSet(like, great, like, like);
            outsideSet(like, like, great, like);
            outsideSet(like, like, like, great);
        }
    }

    void promise09_numbersWhoseSquaresWrapAroundAreOutside() {
        outsideSet(65536, 65536, 65536, 65536);
        outsideSet(32768, 32768, 32768, 32768);
        outsideSet(65536, 0, 0, 0);
        // four squares of -2^31 are 2^64: 0 for a long, too
        outsideSet(MIN, MIN, MIN, MIN);
        outsideSet(MIN, 0, 0, 0);
        outsideSet(MAX, MAX, MAX, MAX);
        outsideSet(MIN, 2, 2, 2);
    }

    void promise09_notAllEvenAndNotAllOddIsOutside() {
        outsideSet(1, 2, 2, 2);
        outsideSet(2, 1, 2, 2);
        outsideSet(2, 2, 1, 2);
        outsideSet(2, 2, 2, 1);
        outsideSet(1, 1, 2, 2);
        outsideSet(1, 2, 1, 2);
        outsideSet(1, 2, 2, 1);
        outsideSet(0, 1, 1, 1);
        outsideSet(1, 0, 1, 1);
        outsideSet(1, 1, 0, 1);
        outsideSet(1, 1, 1, 0);
        outsideSet(-1, -1, -1, -2);
        outsideSet(-2, -2, -2, -1);
        outsideSet(0, 0, 0, -1);
    }

    void promise09_0MayBeSet() {
        put(0, 3, 1, 1, 1, 3);
        put(0, 0, 0, 0, 0, 0);
        dueSlot(0, 0, 0, 0, 0);
        due("both can be undone", x.count(2), 2);
    }

    void promise09_noSuchSlotIsUnknown() {
        unknownSlots("set", (d, slot) -> d.set(slot, 2, 0, 0, 0));
    }

    void promise09_unknownIsAheadOfOutside() {
        unknownSlots("set, not all odd", (d, slot) -> d.set(slot, 1, 2, 1, 1));
        unknownSlots("set, above 150", (d, slot) -> d.set(slot, 22, 10, 4, 2));
        unknownSlots("set, wrapped", (d, slot) -> d.set(slot, MIN, MIN, MIN, MIN));
    }

    void promise09_oneSlotAloneIsSet() {
        for (int slot = 0; slot < 6; slot++) {
            put(slot, 2 * slot + 1, 1, 1, 1, slot * (slot + 1) + 1);
        }
        for (int slot = 0; slot < 6; slot++) {
            dueSlot(slot, 2 * slot + 1, 1, 1, 1);
        }
    }

    // ---- add

    void promise10_aSumOfNorm150MayBe() {
        x.set(0, 24, 4, 2, 0);
        x.set(5, 0, 0, 0, 2);
        due("add", x.add(0, 5), 150);
        dueSlot(0, 24, 4, 2, 2);
        dueSlot(5, 0, 0, 0, 2);
    }

    void promise10_aSumOfNorm151IsNot() {
        lets("all even", NOT, d -> {
            busy(d);
            d.set(0, 22, 10, 4, 0);
            d.set(5, 0, 0, 0, 2);
        }, d -> d.add(0, 5));
        lets("all odd", NOT, d -> {
            busy(d);
            d.set(0, 23, 5, 5, 3);
            d.set(5, 0, 0, 0, 2);
        }, d -> d.add(5, 0));
        lets("far above", NOT, d -> {
            busy(d);
            d.set(1, 24, 4, 2, 2);
            d.set(2, 24, 4, 2, 2);
        }, d -> d.add(1, 2));
    }

    void promise10_aSlotAndItself() {
        put(0, 12, 2, 0, 0, 37);
        due("to 148", x.add(0, 0), 148);
        dueSlot(0, 24, 4, 0, 0);
        lets("to 152", NOT, d -> busyWith(d, 0, 12, 2, 2, 0), d -> d.add(0, 0));
        due("0 and itself", x.add(3, 3), 0);
    }

    void promise10_halvesAndWholeOnes() {
        x.set(0, 1, 1, 1, 1);
        x.set(1, 1, -1, 3, -3);
        x.set(2, 2, 4, 0, 0);
        due("half and half", x.add(0, 1), 6);
        dueSlot(0, 2, 0, 4, -2);
        due("half and whole", x.add(1, 2), 9);
        dueSlot(1, 3, 3, 3, -3);
    }

    void promise10_aSumMayBe0() {
        x.set(0, 24, 4, 2, 2);
        x.set(1, -24, -4, -2, -2);
        due("add", x.add(0, 1), 0);
        dueSlot(0, 0, 0, 0, 0);
        dueSlot(1, -24, -4, -2, -2);
    }

    void promise10_noSuchSlotIsUnknown() {
        unknownSlots("add", (d, slot) -> d.add(slot, 0));
        unknownSlots("add", (d, slot) -> d.add(0, slot));
        unknownSlots("add", (d, slot) -> d.add(slot, slot));
    }

    void promise10_unknownIsAheadOfNot() {
        unknownSlots("add to one of 150", (d, slot) -> d.add(2, slot));
        unknownSlots("add one of 150", (d, slot) -> d.add(slot, 2));
    }

    // ---- times

    void promise11_aProductOfNorm150MayBe() {
        for (int side = 0; side < 2; side++) {
            fresh();
            x.set(0, 2, 6, 0, 0);
            x.set(5, 7, 3, 1, 1);
            due("10 by 15", x.times(0, 5, side), 150);
            // (1 + 3i)(7 + 3i + j + k) = -2 + 24i - 2j + 4k, or with +4j - 2k
            dueSlot(0, -2, 24, side == 0 ? -2 : 4, side == 0 ? 4 : -2);
            dueSlot(5, 7, 3, 1, 1);
        }
    }

    void promise11_aProductAbove150IsNot() {
        for (int side = 0; side < 2; side++) {
            int where = side;
            lets("8 by 19", NOT, d -> {
                busy(d);
                d.set(0, 4, 4, 0, 0);
                d.set(5, 8, 2, 2, 2);
            }, d -> d.times(0, 5, where));
            lets("150 by 2", NOT, d -> {
                busy(d);
                d.set(0, 24, 4, 2, 2);
                d.set(5, 2, 0, 0, 2);
            }, d -> d.times(5, 0, where));
        }
    }

    void promise11_aSlotAndItself() {
        put(0, 6, 2, 2, 2, 12);
        due("12 by 12", x.times(0, 0, 1), 144);
        dueSlot(0, 12, 12, 12, 12);
        lets("13 by 13", NOT, d -> busyWith(d, 0, 6, 4, 0, 0), d -> d.times(0, 0, 0));
    }

    void promise11_by0() {
        x.set(0, 24, 4, 2, 2);
        due("by 0", x.times(0, 1, 0), 0);
        dueSlot(0, 0, 0, 0, 0);
        due("0 by 0", x.times(0, 0, 1), 0);
    }

    void promise11_byAUnitAtTheGreatestNorm() {
        x.set(0, 24, 4, 2, 2);
        x.set(1, 0, 2, 0, 0);
        due("by i", x.times(0, 1, 0), 150);
        // (12 + 2i + j + k) i = -2 + 12i + j - k
        dueSlot(0, -4, 24, 2, -2);
        x.undo();
        due("i by it", x.times(0, 1, 1), 150);
        dueSlot(0, -4, 24, -2, 2);
    }

    void promise11_sides0And1OthersAreOutside() {
        outside("side", beside(2), (d, side) -> d.times(0, 4, side));
    }

    void promise11_noSuchSlotIsUnknown() {
        unknownSlots("times", (d, slot) -> d.times(slot, 4, 0));
        unknownSlots("times", (d, slot) -> d.times(4, slot, 1));
    }

    void promise11_unknownIsAheadOfOutside() {
        unknownSlots("side 2", (d, slot) -> d.times(slot, 4, 2));
        unknownSlots("side -1", (d, slot) -> d.times(4, slot, -1));
    }

    void promise11_outsideIsAheadOfNot() {
        outside("above 150, side", beside(2), (d, side) -> d.times(2, 5, side));
    }

    // ---- turn

    void promise12_ways0To3OthersAreOutside() {
        outside("way", beside(4), (d, way) -> d.turn(0, way));
        outside("of 0, way", beside(4), (d, way) -> d.turn(3, way));
    }

    void promise12_noSuchSlotIsUnknown() {
        for (int way = 0; way < 4; way++) {
            int which = way;
            unknownSlots("turn " + way, (d, slot) -> d.turn(slot, which));
        }
    }

    void promise12_unknownIsAheadOfOutside() {
        unknownSlots("way 4", (d, slot) -> d.turn(slot, 4));
        unknownSlots("way -1", (d, slot) -> d.turn(slot, -1));
    }

    void promise12_0StaysWhatItIs() {
        for (int way = 0; way < 4; way++) {
            due("way " + way, x.turn(5, way), 0);
            dueSlot(5, 0, 0, 0, 0);
        }
        due("all can be undone", x.count(2), 4);
    }

    void promise12_conjugateAndLessThan0AtTheGreatestNorm() {
        x.set(0, 24, -4, 2, -2);
        due("conjugate", x.turn(0, 0), 150);
        dueSlot(0, 24, 4, -2, 2);
        due("less", x.turn(0, 3), 150);
        dueSlot(0, -24, -4, 2, -2);
        x.set(0, -1, 3, -5, 7);
        x.turn(0, 3);
        dueSlot(0, 1, -3, 5, -7);
        x.turn(0, 0);
        dueSlot(0, 1, 3, -5, 7);
    }

    void promise12_theHeadOfEachUnitIsTheGreatestUnit() {
        for (int k = 0; k < 24; k++) {
            for (int way = 1; way <= 2; way++) {
                fresh();
                x.set(0, UNITS[k][0], UNITS[k][1], UNITS[k][2], UNITS[k][3]);
                due("unit " + k, x.turn(0, way), 1);
                dueSlot(0, 2, 0, 0, 0);
            }
        }
    }

    void promise12_allMatesHaveOneHead() {
        for (int k = 0; k < 24; k++) {
            for (int side = 0; side < 2; side++) {
                fresh();
                x.set(0, 4, -2, 0, 0);
                x.set(1, UNITS[k][0], UNITS[k][1], UNITS[k][2], UNITS[k][3]);
                x.times(0, 1, side);
                due("mate " + k, x.turn(0, 1 + side), 5);
                dueSlot(0, 4, -2, 0, 0);
            }
        }
    }

    void promise12_ofLikeFirstNumbersTheSecondDecides() {
        // all mates of 1 + i with the first number 2: the greatest of them is itself
        x.set(0, 2, 0, 0, -2);
        x.turn(0, 1);
        dueSlot(0, 2, 2, 0, 0);
        x.set(0, 2, -2, 0, 0);
        x.turn(0, 2);
        dueSlot(0, 2, 2, 0, 0);
    }

    void promise12_theHeadOfASmallOneBehindAGreatOne() {
        x.set(0, 24, -4, 2, 2);
        x.set(1, 2, 0, 0, 0);
        for (int way = 1; way <= 2; way++) {
            x.turn(0, 0);
            due("way " + way, x.turn(1, way), 1);
            dueSlot(1, 2, 0, 0, 0);
        }
    }

    void promise12_theSidesDiffer() {
        x.set(0, 1, 1, 3, 3);
        x.turn(0, 1);
        dueSlot(0, 4, 0, 0, 2);
        x.undo();
        x.turn(0, 2);
        dueSlot(0, 4, 0, 2, 0);
    }

    // ---- divide

    void promise13_by0IsNot() {
        for (int k = 0; k < 4; k++) {
            int way = k / 2;
            int side = k % 2;
            lets("by 0", NOT, d -> d.divide(0, 3, way, side));
            lets("0 by itself", NOT, d -> d.divide(3, 3, way, side));
        }
    }

    void promise13_0ByAnotherIs0() {
        busy(x);
        dueEach(0, x.divide(3, 0, 0, 0), x.divide(3, 0, 1, 0), x.divide(3, 2, 0, 1), x.divide(3, 2, 1, 1));
        dueSlot(3, 0, 0, 0, 0);
    }

    void promise13_bySelfIs1AndNothingRests() {
        x.set(0, 24, 4, 2, 2);
        due("nearest", x.divide(0, 0, 0, 0), 1);
        dueSlot(0, 2, 0, 0, 0);
        x.undo();
        due("rest", x.divide(0, 0, 1, 1), 0);
        dueSlot(0, 0, 0, 0, 0);
    }

    void promise13_theGreatestNormByAUnit() {
        x.set(0, 24, 4, 2, 2);
        x.set(1, 0, 2, 0, 0);
        due("nearest", x.divide(0, 1, 0, 0), 150);
        // -i (12 + 2i + j + k) = 2 - 12i + j - k
        dueSlot(0, 4, -24, 2, -2);
        x.undo();
        due("nearest", x.divide(0, 1, 0, 1), 150);
        dueSlot(0, 4, -24, -2, 2);
        x.undo();
        due("rest", x.divide(0, 1, 1, 0), 0);
    }

    void promise13_aSmallOneByAGreatOneRestsWhole() {
        x.set(0, 2, 0, 0, 0);
        x.set(1, 24, 4, 2, 2);
        due("nearest", x.divide(0, 1, 0, 0), 0);
        dueSlot(0, 0, 0, 0, 0);
        x.undo();
        due("rest", x.divide(0, 1, 1, 0), 1);
        dueSlot(0, 2, 0, 0, 0);
    }

    void promise13_ofLikeOnesTheGreatestIsTaken() {
        x.set(1, 4, 0, 0, 0);
        // a quarter each: 0 and a unit are as near
        x.set(0, 1, 1, 1, 1);
        due("above 0", x.divide(0, 1, 0, 0), 1);
        dueSlot(0, 1, 1, 1, 1);
        x.undo();
        due("its rest", x.divide(0, 1, 1, 0), 1);
        dueSlot(0, -1, -1, -1, -1);
        x.set(0, -1, -1, -1, -1);
        due("below 0", x.divide(0, 1, 0, 1), 0);
        x.undo();
        due("its rest", x.divide(0, 1, 1, 1), 1);
        dueSlot(0, -1, -1, -1, -1);
        x.set(0, 1, -1, 1, -1);
        due("mixed", x.divide(0, 1, 0, 0), 1);
        dueSlot(0, 1, -1, 1, -1);
        x.set(0, -1, 1, 1, 1);
        due("the first below 0", x.divide(0, 1, 0, 0), 0);
        // half of 1 + i: four whole ones and four half ones are as near
        x.set(0, 2, 2, 0, 0);
        due("eight like ones", x.divide(0, 1, 0, 0), 2);
        dueSlot(0, 2, 2, 0, 0);
        x.set(0, -2, -2, 0, 0);
        due("eight like ones below 0", x.divide(0, 1, 0, 0), 0);
        x.set(0, 0, 0, -2, -2);
        due("eight like ones, b is 1", x.divide(0, 1, 0, 0), 1);
        dueSlot(0, 1, 1, -1, -1);
    }

    void promise13_aHalfOneMayBeNearerThanAWholeOne() {
        x.set(1, 8, 0, 0, 0);
        int[][] rows = {{12, 2, 2, 2}, {2, 12, 2, 2}, {2, 2, 12, 2}, {2, 2, 2, 12}};
        for (int[] row : rows) {
            x.set(0, row[0], row[1], row[2], row[3]);
            // by 4 it is 3 and three times 1/2, all by 2
            due("nearest", x.divide(0, 1, 0, 0), 3);
            dueSlot(0, row[0] / 4 + (row[0] == 2 ? 1 : 0), row[1] / 4 + (row[1] == 2 ? 1 : 0),
                    row[2] / 4 + (row[2] == 2 ? 1 : 0), row[3] / 4 + (row[3] == 2 ? 1 : 0));
            x.undo();
            due("rest", x.divide(0, 1, 1, 1), 3);
        }
    }

    void promise13_theGreatestHalfOneByAUnit() {
        x.set(0, 23, -7, 3, -3);
        x.set(1, -2, 0, 0, 0);
        due("nearest", x.divide(0, 1, 0, 0), 149);
        dueSlot(0, -23, 7, -3, 3);
        due("back again", x.divide(0, 1, 0, 1), 149);
        dueSlot(0, 23, -7, 3, -3);
        due("rest", x.divide(0, 1, 1, 1), 0);
    }

    void promise13_ways0And1OthersAreOutside() {
        outside("way", beside(2), (d, way) -> d.divide(0, 1, way, 0));
    }

    void promise13_sides0And1OthersAreOutside() {
        outside("nearest, side", beside(2), (d, side) -> d.divide(0, 1, 0, side));
        outside("rest, side", beside(2), (d, side) -> d.divide(0, 1, 1, side));
    }

    void promise13_noSuchSlotIsUnknown() {
        unknownSlots("divide", (d, slot) -> d.divide(slot, 0, 0, 0));
        unknownSlots("by", (d, slot) -> d.divide(0, slot, 1, 1));
    }

    void promise13_unknownIsAheadOfOutside() {
        unknownSlots("way 2", (d, slot) -> d.divide(slot, 0, 2, 0));
        unknownSlots("way -1", (d, slot) -> d.divide(0, slot, -1, 0));
        unknownSlots("side 2", (d, slot) -> d.divide(0, slot, 0, 2));
        unknownSlots("side -1", (d, slot) -> d.divide(slot, 0, 0, -1));
    }

    void promise13_unknownIsAheadOfNot() {
        unknownSlots("by 0", (d, slot) -> d.divide(slot, 3, 0, 0));
    }

    void promise13_outsideIsAheadOfNot() {
        outside("by 0, way", beside(2), (d, way) -> d.divide(0, 3, way, 0));
        outside("by 0, side", beside(2), (d, side) -> d.divide(0, 3, 1, side));
    }

    // ---- common

    void promise14_of0And0IsNot() {
        lets("left", NOT, d -> busyWith(d, 5, 0, 0, 0, 0), d -> d.common(3, 5, 0));
        lets("right", NOT, d -> busyWith(d, 5, 0, 0, 0, 0), d -> d.common(3, 5, 1));
        lets("with itself", NOT, d -> d.common(3, 3, 0));
    }

    void promise14_withOne0ItIsTheHeadOfTheOther() {
        for (int side = 0; side < 2; side++) {
            fresh();
            x.set(0, 1, 1, 3, 3);
            due("0 with it", x.common(3, 0, side), 5);
            dueSlot(3, 4, 0, side == 0 ? 0 : 2, side == 0 ? 2 : 0);
            due("it with 0", x.common(0, 4, side), 5);
            dueSlot(0, 4, 0, side == 0 ? 0 : 2, side == 0 ? 2 : 0);
            dueSlot(4, 0, 0, 0, 0);
        }
    }

    void promise14_withItselfItIsTheHead() {
        x.set(0, 1, 1, 3, 3);
        due("left", x.common(0, 0, 0), 5);
        dueSlot(0, 4, 0, 0, 2);
        x.undo();
        due("right", x.common(0, 0, 1), 5);
        dueSlot(0, 4, 0, 2, 0);
    }

    void promise14_theGreatestNormWithItself() {
        x.set(0, 24, 4, 2, 2);
        due("common", x.common(0, 0, 0), 150);
        dueSlot(0, 24, 4, 2, 2);
    }

    void promise14_withAUnitItIs1() {
        x.set(0, 24, 4, 2, 2);
        x.set(1, -1, -1, 1, -1);
        due("left", x.common(0, 1, 0), 1);
        dueSlot(0, 2, 0, 0, 0);
        due("right", x.common(1, 0, 1), 1);
        dueSlot(1, 2, 0, 0, 0);
    }

    void promise14_sides0And1OthersAreOutside() {
        outside("side", beside(2), (d, side) -> d.common(0, 1, side));
    }

    void promise14_noSuchSlotIsUnknown() {
        unknownSlots("common", (d, slot) -> d.common(slot, 0, 0));
        unknownSlots("common", (d, slot) -> d.common(0, slot, 1));
        unknownSlots("common", (d, slot) -> d.common(slot, slot, 1));
    }

    void promise14_unknownIsAheadOfOutside() {
        unknownSlots("side 2", (d, slot) -> d.common(slot, 0, 2));
        unknownSlots("side -1", (d, slot) -> d.common(0, slot, -1));
    }

    void promise14_unknownIsAheadOfNot() {
        unknownSlots("with 0", (d, slot) -> d.common(slot, 3, 0));
        unknownSlots("0 with it", (d, slot) -> d.common(3, slot, 0));
    }

    void promise14_outsideIsAheadOfNot() {
        outside("0 and 0, side", beside(2), (d, side) -> d.common(3, 3, side));
    }

    // ---- undo

    void promise15_nothingToUndoIsNot() {
        lets("a new object", NOT, d -> d.erase(), QuaternionDesk::undo);
        lets("all undone", NOT, d -> {
            busy(d);
            for (int k = 0; k < 6; k++) {
                d.undo();
            }
        }, QuaternionDesk::undo);
        lets("gone back", NOT, d -> {
            busy(d);
            d.back(1);
        }, QuaternionDesk::undo);
    }

    void promise15_theLast8CanBeUndone() {
        for (int k = 1; k <= 8; k++) {
            x.set(0, 2 * k, 0, 0, 0);
        }
        for (int left = 7; left >= 0; left--) {
            due("undo", x.undo(), left);
            dueSlot(0, 2 * left, 0, 0, 0);
        }
        due("undo", x.undo(), NOT);
    }

    void promise15_the9thLastCanNotBeUndone() {
        for (int k = 1; k <= 9; k++) {
            x.set(0, 2 * k, 0, 0, 0);
        }
        due("how many", x.count(2), 8);
        for (int left = 7; left >= 0; left--) {
            due("undo", x.undo(), left);
        }
        dueSlot(0, 2, 0, 0, 0);
        due("undo", x.undo(), NOT);
        dueSlot(0, 2, 0, 0, 0);
    }

    void promise15_farBehind8() {
        for (int k = 1; k <= 400; k++) {
            x.set(k % 6, k % 20, k % 2, k % 2, k % 2);
        }
        due("how many", x.count(2), 8);
        for (int k = 400; k > 392; k--) {
            int before = k - 6;
            due("undo", x.undo(), k - 393);
            dueSlot(k % 6, before % 20, before % 2, before % 2, before % 2);
        }
        due("undo", x.undo(), NOT);
    }

    void promise15_behindAnUndoneOneOthersComeAnew() {
        for (int k = 1; k <= 10; k++) {
            x.set(0, 2 * k, 0, 0, 0);
        }
        x.undo();
        x.undo();
        x.undo();
        due("how many", x.count(2), 5);
        x.set(1, 1, 1, 1, 1);
        due("one more", x.count(2), 6);
        due("undo", x.undo(), 5);
        dueSlot(1, 0, 0, 0, 0);
        dueSlot(0, 14, 0, 0, 0);
        due("undo", x.undo(), 4);
        dueSlot(0, 12, 0, 0, 0);
    }

    void promise15_eachOfTheSixCanBeUndone() {
        Call[] calls = {d -> d.set(0, 5, 1, 1, 1), d -> d.add(0, 1), d -> d.times(0, 1, 0), d -> d.turn(0, 0),
            d -> d.turn(0, 1), d -> d.turn(0, 2), d -> d.turn(0, 3), d -> d.divide(0, 1, 0, 0),
            d -> d.divide(0, 1, 1, 1), d -> d.common(0, 1, 0)};
        for (int k = 0; k < calls.length; k++) {
            fresh();
            x.set(0, -3, 1, 1, 1);
            x.set(1, 4, 2, 0, 0);
            calls[k].on(x);
            due("call " + k + " can be", x.count(2), 3);
            due("call " + k + ", undo", x.undo(), 2);
            dueSlot(0, -3, 1, 1, 1);
            dueSlot(1, 4, 2, 0, 0);
        }
    }

    void promise15_alsoOneByWhichNoNumberChanged() {
        Call[] calls = {d -> d.set(0, 4, 2, 0, 0), d -> d.add(0, 5), d -> d.times(0, 1, 1), d -> d.turn(2, 0),
            d -> d.turn(1, 1), d -> d.turn(1, 2), d -> d.turn(5, 3), d -> d.divide(0, 1, 0, 0),
            d -> d.divide(5, 0, 1, 1), d -> d.common(1, 1, 0)};
        for (int k = 0; k < calls.length; k++) {
            fresh();
            x.set(0, 4, 2, 0, 0);
            x.set(1, 2, 0, 0, 0);
            x.set(2, 6, 0, 0, 0);
            calls[k].on(x);
            due("call " + k + " can be", x.count(2), 4);
            due("call " + k + ", undo", x.undo(), 3);
            dueSlot(0, 4, 2, 0, 0);
            dueSlot(1, 2, 0, 0, 0);
            dueSlot(2, 6, 0, 0, 0);
        }
    }

    void promise15_aRefusedCallIsNotUndone() {
        x.set(0, 2, 0, 0, 0);
        x.set(2, 24, 4, 2, 2);
        dueEach(OUTSIDE, x.set(0, 1, 1, 1, 2), x.times(0, 0, 2), x.turn(0, 4), x.divide(0, 0, 0, 2), x.common(0, 0, 2));
        dueEach(NOT, x.add(2, 2), x.times(2, 2, 0), x.divide(0, 5, 0, 0), x.common(4, 5, 0));
        dueEach(UNKNOWN, x.set(6, 2, 0, 0, 0), x.add(0, 6), x.times(6, 0, 0), x.turn(6, 0), x.divide(0, 6, 0, 0));
        due("two", x.count(2), 2);
        due("undo", x.undo(), 1);
        dueSlot(2, 0, 0, 0, 0);
    }

    void promise15_noOtherCallIsUndone() {
        x.set(0, 2, 0, 0, 0);
        x.keep(0);
        x.tally(0, 2);
        x.load(0, 0, 0);
        x.work(0, 0, 0, 0);
        x.write('a');
        due("one", x.count(2), 1);
        due("undo", x.undo(), 0);
        due("kept still", x.count(5), 1);
        due("tally still", x.count(4), 2);
        due("latest still", x.latest(), 2);
        due("text still", x.count(3), 1);
        due("kept as it was", x.back(0), 1);
        dueSlot(0, 2, 0, 0, 0);
    }

    // ---- keep

    void promise16_placesAre0And1OthersAreOutside() {
        outside("keep", beside(2), (d, k) -> d.keep(k));
    }

    void promise16_noneAndAllFilled() {
        due("none", x.keep(0), 0);
        for (int slot = 0; slot < 6; slot++) {
            x.set(slot, 0, 0, 0, -2);
            due("filled", x.keep(slot % 2), slot + 1);
        }
    }

    void promise16_oneIsKeptTheOtherNot() {
        x.keep(0);
        dueEach(1, x.count(5));
        dueEach(0, x.count(6));
        fresh();
        x.keep(1);
        dueEach(0, x.count(5));
        dueEach(1, x.count(6));
    }

    void promise16_bothAreKeptApart() {
        x.set(0, 2, 0, 0, 0);
        x.keep(0);
        x.set(0, 4, 0, 0, 0);
        x.keep(1);
        x.set(0, 6, 0, 0, 0);
        x.back(0);
        dueSlot(0, 2, 0, 0, 0);
        x.back(1);
        dueSlot(0, 4, 0, 0, 0);
    }

    void promise16_keptAnewItIsAsItIsThen() {
        x.set(0, 2, 0, 0, 0);
        x.keep(0);
        x.set(0, 0, 0, 0, 0);
        x.set(5, 4, 0, 0, 0);
        due("keep", x.keep(0), 1);
        x.set(5, 6, 0, 0, 0);
        x.back(0);
        dueSlot(0, 0, 0, 0, 0);
        dueSlot(5, 4, 0, 0, 0);
    }

    void promise16_whatCanBeUndoneIsLetBe() {
        x.set(0, 2, 0, 0, 0);
        x.keep(0);
        due("how many", x.count(2), 1);
        due("undo", x.undo(), 0);
        dueSlot(0, 0, 0, 0, 0);
    }

    // ---- back

    void promise17_placesAre0And1OthersAreOutside() {
        outside("back", beside(2), (d, k) -> d.back(k));
    }

    void promise17_outsideIsAheadOfNot() {
        for (int k : beside(2)) {
            lets("back " + k + ", nothing kept", OUTSIDE, Boundary::busyUnkept, d -> d.back(k));
        }
    }

    void promise17_nothingKeptIsNot() {
        for (int k = 0; k < 2; k++) {
            int which = k;
            lets("back " + k, NOT, Boundary::busyUnkept, d -> d.back(which));
            lets("back " + k + ", the other one is kept", NOT, d -> {
                busyUnkept(d);
                d.keep(1 - which);
                d.set(0, 4, 0, 0, 0);
            }, d -> d.back(which));
        }
    }

    void promise17_nothingKeptSinceTheLastTextIsNot() {
        for (int k = 0; k < 2; k++) {
            int which = k;
            lets("back " + k, NOT, d -> {
                busy(d);
                d.desk();
                busyUnkept(d);
            }, d -> d.back(which));
        }
    }

    void promise17_keptAgainBehindATextItCanBeGoneBackTo() {
        x.keep(0);
        write(x, "unit 1 1");
        x.desk();
        x.keep(0);
        x.set(1, 0, 0, 0, 0);
        due("back", x.back(0), 1);
        dueSlot(1, 1, 1, 1, 1);
        due("the other one", x.back(1), NOT);
    }

    void promise17_aTextThatIsRefusedLetsItBeKept() {
        x.set(0, 2, 0, 0, 0);
        x.keep(1);
        write(x, "foo");
        x.desk();
        x.set(0, 0, 0, 0, 0);
        due("back", x.back(1), 1);
        dueSlot(0, 2, 0, 0, 0);
    }

    void promise17_noneAndAllFilled() {
        x.keep(0);
        for (int slot = 0; slot < 6; slot++) {
            x.set(slot, 24, 4, 2, 2);
        }
        x.keep(1);
        due("none", x.back(0), 0);
        due("all", x.back(1), 6);
        for (int slot = 0; slot < 6; slot++) {
            dueSlot(slot, 24, 4, 2, 2);
        }
    }

    void promise17_nothingCanBeUndoneThen() {
        for (int k = 0; k < 9; k++) {
            x.set(0, 2 * k, 0, 0, 0);
        }
        x.keep(0);
        x.back(0);
        due("how many", x.count(2), 0);
        due("undo", x.undo(), NOT);
        dueSlot(0, 16, 0, 0, 0);
        x.set(0, 2, 0, 0, 0);
        due("one", x.undo(), 0);
        dueSlot(0, 16, 0, 0, 0);
    }

    void promise17_aRefusedOneLetsWhatCanBeUndone() {
        x.set(0, 2, 0, 0, 0);
        dueEach(NOT, x.back(0), x.back(1));
        due("how many", x.count(2), 1);
    }

    void promise17_itCanBeGoneBackToAgain() {
        x.set(0, 3, 1, 1, 1);
        x.keep(0);
        for (int k = 0; k < 3; k++) {
            x.set(0, 2, 0, 0, 0);
            due("back", x.back(0), 1);
            dueSlot(0, 3, 1, 1, 1);
        }
    }

    void promise17_textTalliesAndLatestAreLetBe() {
        busy(x);
        x.back(0);
        due("letters", x.count(3), 32);
        due("ints", x.count(4), 4);
        due("latest", x.latest(), 14);
        dueEach(1, x.count(5), x.count(6));
    }
}
