/** Boundary cases of what is found: divides to rank. */
public final class FindBoundaryTest extends Boundary {
    public static void main(String[] args) throws Exception {
        runAll(FindBoundaryTest.class, 18, 19, 20, 21, 22, 23, 24, 25, 26, 27);
    }

    private interface OfNumber {
        int on(QuaternionDesk x, int number);
    }

    private void unknownSlots(String call, OfNumber made) {
        for (int slot : beside(6)) {
            lets(call + " of slot " + slot, UNKNOWN, d -> made.on(d, slot));
        }
    }

    private void outside(String call, int[] wrong, OfNumber made) {
        for (int number : wrong) {
            lets(call + " " + number, OUTSIDE, d -> made.on(d, number));
        }
    }

    // ---- divides

    void promise18_0Divides0Alone() {
        x.set(0, 2, 0, 0, 0);
        for (int side = 0; side < 2; side++) {
            due("0 itself", x.divides(5, 5, side), 1);
            due("0 another 0", x.divides(4, 5, side), 1);
            due("0 what is not 0", x.divides(5, 0, side), 0);
        }
    }

    void promise18_allButNot0Divides0() {
        x.set(0, 24, 4, 2, 2);
        x.set(1, 1, 1, 1, 1);
        for (int side = 0; side < 2; side++) {
            dueEach(1, x.divides(0, 5, side), x.divides(1, 5, side));
        }
    }

    void promise18_aSlotDividesItself() {
        x.set(0, 24, 4, 2, 2);
        x.set(1, 1, -1, 1, 1);
        for (int side = 0; side < 2; side++) {
            dueEach(1, x.divides(0, 0, side), x.divides(1, 1, side));
        }
    }

    void promise18_aUnitDividesAll() {
        x.set(0, -1, 1, -1, 1);
        x.set(1, 24, 4, 2, 2);
        for (int side = 0; side < 2; side++) {
            due("a unit", x.divides(0, 1, side), 1);
            due("of a unit", x.divides(1, 0, side), 0);
        }
    }

    void promise18_aNormThatDividesIsNotEnough() {
        x.set(0, 4, 2, 0, 0);
        x.set(1, 4, -2, 0, 0);
        x.set(2, 10, 0, 0, 0);
        for (int side = 0; side < 2; side++) {
            // of norm 5 both, and i apart in no unit
            due("2 + i and 2 - i", x.divides(0, 1, side), 0);
            due("2 + i and 5", x.divides(0, 2, side), 1);
        }
    }

    void promise18_theOtherPartHasToBeAllEvenOrAllOdd() {
        x.set(0, 4, 0, 0, 0);
        x.set(1, 2, 2, 0, 0);
        x.set(2, 2, 2, 2, 2);
        x.set(3, 2, 2, 2, 0);
        x.set(4, 3, 1, 1, 1);
        for (int side = 0; side < 2; side++) {
            dueEach(0, x.divides(0, 1, side), x.divides(0, 3, side), x.divides(0, 4, side));
            due("2 and 2 times a unit", x.divides(0, 2, side), 1);
        }
    }

    void promise18_eachNumberIsAskedFor() {
        x.set(0, 6, 0, 0, 0);
        int[][] rows = {{3, 3, 3, 3, 1}, {1, 3, 3, 3, 0}, {3, 1, 3, 3, 0}, {3, 3, 1, 3, 0}, {3, 3, 3, 1, 0},
            {6, 0, 0, 12, 1}, {6, 0, 0, 8, 0}};
        for (int[] row : rows) {
            x.set(1, row[0], row[1], row[2], row[3]);
            dueEach(row[4], x.divides(0, 1, 0), x.divides(0, 1, 1));
        }
    }

    void promise18_theSidesDiffer() {
        x.set(0, 3, 1, 1, 1);
        x.set(1, 5, 5, 3, 1);
        due("left", x.divides(0, 1, 0), 1);
        due("right", x.divides(0, 1, 1), 0);
    }

    void promise18_sides0And1OthersAreOutside() {
        outside("side", beside(2), (d, side) -> d.divides(0, 1, side));
        outside("0 and 0, side", beside(2), (d, side) -> d.divides(3, 3, side));
    }

    void promise18_noSuchSlotIsUnknown() {
        unknownSlots("divides", (d, slot) -> d.divides(slot, 0, 0));
        unknownSlots("divides", (d, slot) -> d.divides(0, slot, 1));
    }

    void promise18_unknownIsAheadOfOutside() {
        unknownSlots("side 2", (d, slot) -> d.divides(slot, 0, 2));
        unknownSlots("side -1", (d, slot) -> d.divides(0, slot, -1));
    }

    void promise18_toAskChangesNothing() {
        lets("divides", 0, d -> d.divides(0, 2, 1));
        lets("0 divides 0", 1, d -> d.divides(3, 3, 0));
    }

    // ---- nearest

    private void dueNearest(int slot, int other, int side, int... want) {
        for (int i = 0; i < want.length; i++) {
            due("nearest " + slot + " " + other + " " + side + " " + i, x.nearest(slot, other, side, i), want[i]);
        }
    }

    void promise19_numbers0To8AreToldOthersAreOutside() {
        x.set(0, 7, 5, 1, 1);
        x.set(1, 4, 0, 0, 0);
        dueNearest(0, 1, 0, 4, 2, 0, 0, -1, 1, 1, 1, 1);
        outside("number", beside(9), (d, i) -> d.nearest(0, 1, 0, i));
    }

    void promise19_by0IsNot() {
        for (int i = 0; i < 9; i++) {
            int which = i;
            lets("by 0, " + i, NOT, d -> d.nearest(0, 3, sideFor(which), which));
            lets("0 by itself, " + i, NOT, d -> d.nearest(3, 3, sideFor(which), which));
        }
    }

    /** A side for a number: both of them in turn. */
    private static int sideFor(int number) {
        return number % 2;
    }

    void promise19_0ByAnotherIs0() {
        x.set(0, 24, 4, 2, 2);
        dueNearest(5, 0, 0, 0, 0, 0, 0, 0, 0, 0, 0, 0);
        dueNearest(5, 0, 1, 0, 0, 0, 0, 0, 0, 0, 0, 0);
    }

    void promise19_byItselfIs1() {
        x.set(0, 24, 4, 2, 2);
        x.set(1, -1, 1, -1, 1);
        dueNearest(0, 0, 0, 2, 0, 0, 0, 0, 0, 0, 0, 0);
        dueNearest(1, 1, 1, 2, 0, 0, 0, 0, 0, 0, 0, 0);
    }

    void promise19_theGreatestNormByAUnit() {
        x.set(0, 24, 4, 2, 2);
        x.set(1, 0, 2, 0, 0);
        dueNearest(0, 1, 0, 4, -24, 2, -2, 0, 0, 0, 0, 0);
        dueNearest(0, 1, 1, 4, -24, -2, 2, 0, 0, 0, 0, 0);
    }

    void promise19_ofLikeOnesTheGreatestIsTaken() {
        x.set(1, 4, 0, 0, 0);
        x.set(0, 1, 1, 1, 1);
        dueNearest(0, 1, 0, 1, 1, 1, 1, -1, -1, -1, -1, 1);
        x.set(0, -1, -1, -1, -1);
        dueNearest(0, 1, 0, 0, 0, 0, 0, -1, -1, -1, -1, 1);
        x.set(0, 0, 2, 2, 0);
        // halves of i + j: 1 is the greatest first number that is as near
        dueNearest(0, 1, 1, 1, 1, 1, 1, -2, 0, 0, -2, 2);
        x.set(0, 0, -2, 2, 0);
        dueNearest(0, 1, 1, 1, -1, 1, 1, -2, 0, 0, -2, 2);
        x.set(0, 2, 2, 0, 0);
        dueNearest(0, 1, 1, 2, 2, 0, 0, -2, -2, 0, 0, 2);
        x.set(0, 2, 0, 0, 0);
        // half of 1: 0 and 1 and all units of half ones with 1 ahead are not all as near
        dueNearest(0, 1, 0, 2, 0, 0, 0, -2, 0, 0, 0, 1);
        x.set(0, -2, 0, 0, 0);
        dueNearest(0, 1, 0, 0, 0, 0, 0, -2, 0, 0, 0, 1);
    }

    void promise19_aHalfOneMayBeNearerThanAWholeOne() {
        x.set(1, 8, 0, 0, 0);
        x.set(0, 12, 2, 2, 2);
        dueNearest(0, 1, 0, 3, 1, 1, 1, 0, -2, -2, -2, 3);
        x.set(0, -12, -2, 2, 2);
        dueNearest(0, 1, 1, -3, -1, 1, 1, 0, 2, -2, -2, 3);
        x.set(0, 23, -7, 3, -3);
        x.set(1, 2, 0, 0, 0);
        dueNearest(0, 1, 1, 23, -7, 3, -3, 0, 0, 0, 0, 0);
    }

    void promise19_theRestIsAtMostHalfOfTheNorm() {
        x.set(1, 2, 2, 0, 0);
        x.set(0, 2, 0, 0, 0);
        // a half less i's half: 1, 0, and some half ones are as near
        dueNearest(0, 1, 0, 2, 0, 0, 0, 0, -2, 0, 0, 1);
        x.set(2, 4, 4, 0, 0);
        due("2 + 2i, 1 + i", x.nearest(2, 1, 0, 8), 0);
    }

    void promise19_sides0And1OthersAreOutside() {
        outside("side", beside(2), (d, side) -> d.nearest(0, 1, side, 0));
        outside("side", beside(2), (d, side) -> d.nearest(0, 1, side, 8));
    }

    void promise19_noSuchSlotIsUnknown() {
        unknownSlots("nearest", (d, slot) -> d.nearest(slot, 0, 0, 0));
        unknownSlots("by", (d, slot) -> d.nearest(0, slot, 1, 8));
    }

    void promise19_unknownIsAheadOfOutside() {
        unknownSlots("side 2", (d, slot) -> d.nearest(slot, 0, 2, 0));
        unknownSlots("side -1", (d, slot) -> d.nearest(0, slot, -1, 0));
        unknownSlots("i 9", (d, slot) -> d.nearest(0, slot, 0, 9));
        unknownSlots("i -1", (d, slot) -> d.nearest(slot, 0, 0, -1));
    }

    void promise19_unknownIsAheadOfNot() {
        unknownSlots("by 0", (d, slot) -> d.nearest(slot, 3, 0, 0));
    }

    void promise19_outsideIsAheadOfNot() {
        outside("by 0, side", beside(2), (d, side) -> d.nearest(0, 3, side, 0));
        outside("by 0, i", beside(9), (d, i) -> d.nearest(0, 3, 1, i));
    }

    void promise19_toAskChangesNothing() {
        lets("nearest", 150, d -> d.of(2, 0) + d.nearest(2, 2, 0, 8));
        lets("nearest", 2, d -> d.nearest(2, 2, 1, 0));
    }

    // ---- steps

    void promise20_by0ThereAreNone() {
        x.set(0, 24, 4, 2, 2);
        dueEach(0, x.steps(0, 5, 0), x.steps(0, 5, 1), x.steps(4, 5, 0), x.steps(5, 5, 1));
    }

    void promise20_of0ThereIsOne() {
        x.set(0, 24, 4, 2, 2);
        x.set(1, 2, 0, 0, 0);
        dueEach(1, x.steps(5, 0, 0), x.steps(5, 1, 1));
    }

    void promise20_byItselfByAUnitByADivisorThereIsOne() {
        x.set(0, 24, 4, 2, 2);
        x.set(1, 1, 1, -1, 1);
        x.set(2, 5, 5, 3, 1);
        x.set(3, 3, 1, 1, 1);
        dueEach(1, x.steps(0, 0, 0), x.steps(0, 1, 0), x.steps(1, 1, 1), x.steps(2, 3, 0));
    }

    void promise20_aSmallOneByAGreatOneIsOneStepMore() {
        x.set(0, 24, 4, 2, 2);
        x.set(1, 2, 0, 0, 0);
        due("1 by it", x.steps(1, 0, 0), 2);
        x.set(0, 7, 5, 1, 1);
        x.set(1, 4, 0, 0, 0);
        due("by 2", x.steps(0, 1, 0), 2);
        due("2 by it", x.steps(1, 0, 0), 3);
    }

    void promise20_sides0And1OthersAreOutside() {
        outside("side", beside(2), (d, side) -> d.steps(0, 1, side));
        outside("by 0, side", beside(2), (d, side) -> d.steps(0, 3, side));
    }

    void promise20_noSuchSlotIsUnknown() {
        unknownSlots("steps", (d, slot) -> d.steps(slot, 0, 0));
        unknownSlots("by", (d, slot) -> d.steps(0, slot, 1));
    }

    void promise20_unknownIsAheadOfOutside() {
        unknownSlots("side 2", (d, slot) -> d.steps(slot, 0, 2));
        unknownSlots("side -1", (d, slot) -> d.steps(0, slot, -1));
    }

    void promise20_toAskChangesNothing() {
        lets("steps", 1, d -> d.steps(2, 4, 0));
    }

    // ---- mate

    private void dueMate(int side, int k, int a, int b, int c, int d) {
        int[] want = {a, b, c, d};
        for (int i = 0; i < 4; i++) {
            due("mate on " + side + " " + k + " " + i, x.mate(0, side, k, i), want[i]);
        }
    }

    void promise21_theFirstMateIsItselfTheLastIsLessThan0AsMuch() {
        x.set(0, 24, 4, -2, 2);
        for (int side = 0; side < 2; side++) {
            dueMate(side, 0, 24, 4, -2, 2);
            dueMate(side, 23, -24, -4, 2, -2);
        }
    }

    void promise21_theSidesDiffer() {
        x.set(0, 2, 4, 0, 0);
        dueMate(0, 10, 0, 0, 2, 4);
        dueMate(1, 10, 0, 0, 2, -4);
        // (1 + 2i)(1 + i + j + k) = -1 + 3i - j + 3k, all by 2
        dueMate(0, 1, -1, 3, -1, 3);
        dueMate(1, 1, -1, 3, 3, -1);
    }

    void promise21_allMatesOf0Are0() {
        for (int k = 0; k < 24; k++) {
            for (int side = 0; side < 2; side++) {
                dueMate(side, k, 0, 0, 0, 0);
            }
        }
    }

    void promise21_mates0To23OthersAreOutside() {
        outside("mate", beside(24), (d, k) -> d.mate(0, 0, k, 0));
        outside("mate", beside(24), (d, k) -> d.mate(3, 1, k, 3));
    }

    void promise21_numbers0To3OthersAreOutside() {
        outside("number", beside(4), (d, i) -> d.mate(0, 0, 23, i));
    }

    void promise21_sides0And1OthersAreOutside() {
        outside("side", beside(2), (d, side) -> d.mate(0, side, 0, 0));
    }

    void promise21_noSuchSlotIsUnknown() {
        unknownSlots("mate", (d, slot) -> d.mate(slot, 0, 0, 0));
        unknownSlots("mate", (d, slot) -> d.mate(slot, 1, 23, 3));
    }

    void promise21_unknownIsAheadOfOutside() {
        unknownSlots("side 2", (d, slot) -> d.mate(slot, 2, 0, 0));
        unknownSlots("k 24", (d, slot) -> d.mate(slot, 0, 24, 0));
        unknownSlots("k -1", (d, slot) -> d.mate(slot, 0, -1, 0));
        unknownSlots("i 4", (d, slot) -> d.mate(slot, 0, 0, 4));
    }

    void promise21_toAskChangesNothing() {
        lets("mate", -3, d -> d.mate(0, 1, 23, 0));
    }

    // ---- factor

    private void dueFactor(int k, int a, int b, int c, int d) {
        int[] want = {a, b, c, d};
        for (int i = 0; i < 4; i++) {
            due("factor " + k + " " + i, x.factor(0, k, i), want[i]);
        }
    }

    void promise22_aUnitIsItsOnlyFactor() {
        x.set(0, -1, 1, -1, 1);
        dueFactor(0, -1, 1, -1, 1);
        due("the next", x.factor(0, 1, 0), NOT);
    }

    void promise22_oneFactorAndTheUnit() {
        x.set(0, 1, 1, 3, 3);
        // its mates are of norm 5: the greatest is its head, by which a unit is left
        dueFactor(0, 4, 0, 0, 2);
        // (2 - k)(1 + i + 3j + 3k) / 10 = (1 + i + j + k) / 2
        dueFactor(1, 1, 1, 1, 1);
        due("the next", x.factor(0, 2, 0), NOT);
    }

    void promise22_sevenFactorsAndTheUnit() {
        x.set(0, 16, 16, 0, 0);
        for (int k = 0; k < 7; k++) {
            dueFactor(k, 2, 2, 0, 0);
        }
        // (1 + i)^7 = 8 - 8i, and that by i is 8 + 8i
        dueFactor(7, 0, 2, 0, 0);
        due("the next", x.factor(0, 8, 0), NOT);
    }

    void promise22_theLeastPrimeComesFirst() {
        x.set(0, 24, 0, 0, 0);
        for (int k = 0; k < 4; k++) {
            dueFactor(k, 2, 2, 0, 0);
        }
        // -12 by 4 is -3: the greatest of norm 3 divides it
        dueFactor(4, 3, 1, 1, 1);
        // (-3 + i + j + k) / 2 is left, a mate of that head
        dueFactor(5, 3, 1, 1, 1);
        dueFactor(6, -1, 1, 1, 1);
        due("the next", x.factor(0, 7, 3), NOT);
    }

    void promise22_of0IsNot() {
        for (int k : new int[] {0, 1, MAX}) {
            lets("factor " + k + " of 0", NOT, d -> d.factor(3, k, 0));
        }
    }

    void promise22_noSuchFactorIsNot() {
        for (int k : new int[] {2, 3, 8, 9, 256, 65536, MAX}) {
            // a prime norm: one factor and the unit
            lets("factor " + k, NOT, d -> d.factor(0, k, 0));
        }
        lets("the unit", 2, d -> d.factor(0, 1, 0));
    }

    void promise22_kBelow0IsOutside() {
        for (int k : new int[] {-1, -2, MIN}) {
            lets("factor " + k, OUTSIDE, d -> d.factor(0, k, 0));
        }
    }

    void promise22_numbers0To3OthersAreOutside() {
        outside("number", beside(4), (d, i) -> d.factor(0, 0, i));
    }

    void promise22_noSuchSlotIsUnknown() {
        unknownSlots("factor", (d, slot) -> d.factor(slot, 0, 0));
    }

    void promise22_unknownIsAheadOfOutside() {
        unknownSlots("k -1", (d, slot) -> d.factor(slot, -1, 0));
        unknownSlots("i 4", (d, slot) -> d.factor(slot, 0, 4));
    }

    void promise22_outsideIsAheadOfNot() {
        outside("of 0, i", beside(4), (d, i) -> d.factor(3, 0, i));
        outside("no such factor, i", beside(4), (d, i) -> d.factor(0, 9, i));
        lets("of 0, k -1", OUTSIDE, d -> d.factor(3, -1, 0));
    }

    void promise22_toAskChangesNothing() {
        lets("factor", 3, d -> d.factor(0, 0, 0));
    }

    // ---- prime

    void promise23_howManyIsAskedByMinus1AndIDoesNotMatter() {
        x.set(0, 6, 0, 0, 0);
        for (int i : new int[] {0, 3, 4, -1, MIN, MAX}) {
            dueEach(4, x.prime(0, 0, -1, i), x.prime(0, 1, -1, i));
        }
    }

    void promise23_aUnitHasNone() {
        x.set(0, -1, 1, -1, 1);
        dueEach(0, x.prime(0, 0, -1, 0), x.prime(0, 1, -1, 0));
        lets("the first", NOT, d -> d.prime(4, 0, 0, 0));
    }

    void promise23_aPrimeNormHasOneItsHead() {
        x.set(0, 1, 1, 3, 3);
        for (int side = 0; side < 2; side++) {
            due("how many", x.prime(0, side, -1, 0), 1);
            int[] want = {4, 0, side == 0 ? 0 : 2, side == 0 ? 2 : 0};
            for (int i = 0; i < 4; i++) {
                due("number " + i, x.prime(0, side, 0, i), want[i]);
            }
            due("behind", x.prime(0, side, 1, 0), NOT);
        }
    }

    void promise23_ofAContentAllHeadsOfThatNorm() {
        x.set(0, 22, 0, 0, 0);
        for (int side = 0; side < 2; side++) {
            due("how many", x.prime(0, side, -1, 0), 12);
            for (int k = 0; k < 12; k++) {
                for (int i = 0; i < 4; i++) {
                    due("prime " + k, x.prime(0, side, k, i), x.list(11, side, k, i));
                }
            }
            due("behind", x.prime(0, side, 12, 0), NOT);
        }
    }

    void promise23_theLeastNormFirst() {
        x.set(0, 24, 0, 0, 0);
        due("how many", x.prime(0, 0, -1, 0), 5);
        int[][] want = {{2, 2, 0, 0}, {3, 1, 1, 1}, {3, 1, 1, -1}, {3, 1, -1, 1}, {3, 1, -1, -1}};
        for (int k = 0; k < 5; k++) {
            for (int i = 0; i < 4; i++) {
                due("prime " + k + " " + i, x.prime(0, 0, k, i), want[k][i]);
                due("list " + k + " " + i, k == 0 ? x.list(2, 0, 0, i) : x.list(3, 0, k - 1, i), want[k][i]);
            }
        }
    }

    void promise23_theGreatestPrimeNorm() {
        x.set(0, 24, 4, 2, 0);
        due("149", x.prime(0, 0, -1, 0), 1);
        due("its first number", x.prime(0, 0, 0, 0), 24);
    }

    void promise23_of0IsNot() {
        for (int k : new int[] {-1, 0, 1, MAX}) {
            lets("prime " + k + " of 0", NOT, d -> d.prime(3, 0, k, 0));
        }
    }

    void promise23_noKthIsNot() {
        for (int k : new int[] {1, 2, 15, 16, 17, 256, 65536, MAX}) {
            lets("prime " + k, NOT, d -> d.prime(0, 1, k, 0));
        }
    }

    void promise23_kBelowMinus1IsOutside() {
        for (int k : new int[] {-2, -3, MIN}) {
            lets("prime " + k, OUTSIDE, d -> d.prime(0, 0, k, 0));
        }
    }

    void promise23_numbers0To3OthersAreOutside() {
        outside("number", beside(4), (d, i) -> d.prime(0, 0, 0, i));
    }

    void promise23_sides0And1OthersAreOutside() {
        outside("side", beside(2), (d, side) -> d.prime(0, side, 0, 0));
        outside("how many, side", beside(2), (d, side) -> d.prime(0, side, -1, 0));
    }

    void promise23_noSuchSlotIsUnknown() {
        unknownSlots("prime", (d, slot) -> d.prime(slot, 0, -1, 0));
        unknownSlots("prime", (d, slot) -> d.prime(slot, 1, 0, 0));
    }

    void promise23_unknownIsAheadOfOutside() {
        unknownSlots("side 2", (d, slot) -> d.prime(slot, 2, -1, 0));
        unknownSlots("k -2", (d, slot) -> d.prime(slot, 0, -2, 0));
        unknownSlots("i 4", (d, slot) -> d.prime(slot, 0, 0, 4));
    }

    void promise23_outsideIsAheadOfNot() {
        outside("of 0, side", beside(2), (d, side) -> d.prime(3, side, -1, 0));
        outside("of 0, i", beside(4), (d, i) -> d.prime(3, 0, 0, i));
        outside("no k-th, i", beside(4), (d, i) -> d.prime(0, 0, 99, i));
        lets("of 0, k -2", OUTSIDE, d -> d.prime(3, 0, -2, 0));
    }

    void promise23_toAskChangesNothing() {
        lets("how many", 1, d -> d.prime(0, 0, -1, 0));
        lets("prime", 3, d -> d.prime(0, 0, 0, 0));
    }

    // ---- list

    void promise24_theLeastNumberIs1() {
        for (int side = 0; side < 2; side++) {
            due("how many", x.list(1, side, -1, 0), 1);
            int[] want = {2, 0, 0, 0};
            for (int i = 0; i < 4; i++) {
                due("number " + i, x.list(1, side, 0, i), want[i]);
            }
            due("behind", x.list(1, side, 1, 0), NOT);
            lets("0", OUTSIDE, d -> d.list(0, 0, -1, 0));
        }
    }

    void promise24_theGreatestNumberIs150() {
        for (int side = 0; side < 2; side++) {
            // the odd numbers that divide it are 1, 3, 5, 15, 25, 75
            due("how many", x.list(150, side, -1, 0), 124);
            due("the first", x.list(150, side, 0, 0), 24);
            due("behind", x.list(150, side, 124, 0), NOT);
        }
        lets("151", OUTSIDE, d -> d.list(151, 0, -1, 0));
    }

    void promise24_otherNumbersAreOutside() {
        outside("how many of", beside(1, 150), (d, n) -> d.list(n, 0, -1, 0));
        outside("the first of", beside(1, 150), (d, n) -> d.list(n, 1, 0, 0));
    }

    void promise24_theLastHeadAndTheOneBehindIt() {
        due("how many", x.list(135, 0, -1, 0), 240);
        due("the last", x.list(135, 0, 239, 0), 19);
        for (int k : new int[] {240, 241, 256, 65536, MAX}) {
            lets("head " + k, NOT, d -> d.list(135, 0, k, 0));
        }
        lets("of 128", NOT, d -> d.list(128, 1, 1, 0));
    }

    void promise24_fromTheGreatestOn() {
        for (int side = 0; side < 2; side++) {
            for (int k = 1; k < 12; k++) {
                int[] ahead = new int[4];
                int[] now = new int[4];
                for (int i = 0; i < 4; i++) {
                    ahead[i] = x.list(11, side, k - 1, i);
                    now[i] = x.list(11, side, k, i);
                }
                due("head " + k, java.util.Arrays.compare(ahead, now) > 0 ? 1 : 0, 1);
            }
        }
    }

    void promise24_howManyIsAskedByMinus1AndIDoesNotMatter() {
        for (int i : new int[] {0, 3, 4, -1, MIN, MAX}) {
            dueEach(4, x.list(3, 0, -1, i), x.list(3, 1, -1, i));
        }
    }

    void promise24_kBelowMinus1IsOutside() {
        for (int k : new int[] {-2, -3, MIN}) {
            lets("head " + k, OUTSIDE, d -> d.list(3, 0, k, 0));
        }
    }

    void promise24_numbers0To3OthersAreOutside() {
        outside("number", beside(4), (d, i) -> d.list(3, 0, 0, i));
    }

    void promise24_sides0And1OthersAreOutside() {
        outside("side", beside(2), (d, side) -> d.list(3, side, 0, 0));
        outside("how many, side", beside(2), (d, side) -> d.list(3, side, -1, 0));
    }

    void promise24_outsideIsAheadOfNot() {
        outside("no such head, i", beside(4), (d, i) -> d.list(3, 0, 4, i));
        outside("no such head, side", beside(2), (d, side) -> d.list(3, side, 4, 0));
    }

    void promise24_toAskChangesNothing() {
        lets("how many", 4, d -> d.list(3, 0, -1, 0));
        lets("number", -1, d -> d.list(3, 0, 3, 3));
    }

    // ---- squares

    void promise25_theLeastNumberIs0() {
        due("rows", x.squares(0, -2, 0), 1);
        due("bases", x.squares(0, -1, 0), 1);
        dueEach(0, x.squares(0, 0, 0), x.squares(0, 0, 1), x.squares(0, 0, 2), x.squares(0, 0, 3));
        lets("behind", NOT, d -> d.squares(0, 1, 0));
        lets("-1", OUTSIDE, d -> d.squares(-1, -2, 0));
    }

    void promise25_theGreatestNumberIs150() {
        // 8 times the sum of all that divide it, but those that 4 divides
        due("rows", x.squares(150, -2, 0), 8 * (1 + 2 + 3 + 5 + 6 + 10 + 15 + 25 + 30 + 50 + 75 + 150));
        due("bases", x.squares(150, -1, 0), 11);
        int[] first = {12, 2, 1, 1};
        int[] last = {7, 7, 6, 4};
        for (int i = 0; i < 4; i++) {
            due("the first", x.squares(150, 0, i), first[i]);
            due("the last", x.squares(150, 10, i), last[i]);
        }
        lets("behind", NOT, d -> d.squares(150, 11, 0));
        lets("151", OUTSIDE, d -> d.squares(151, -2, 0));
    }

    void promise25_otherNumbersAreOutside() {
        outside("rows of", beside(151), (d, n) -> d.squares(n, -2, 0));
        outside("bases of", beside(151), (d, n) -> d.squares(n, -1, 0));
        outside("a base of", beside(151), (d, n) -> d.squares(n, 0, 0));
    }

    void promise25_ofLikeFirstNumbersTheSecondDecides() {
        // 18 is 16 + 1 + 1, 9 + 9, 9 + 4 + 4 + 1
        int[][] want = {{4, 1, 1, 0}, {3, 3, 0, 0}, {3, 2, 2, 1}};
        due("bases", x.squares(18, -1, 0), 3);
        for (int k = 0; k < 3; k++) {
            for (int i = 0; i < 4; i++) {
                due("base " + k + " " + i, x.squares(18, k, i), want[k][i]);
            }
        }
    }

    void promise25_rowsOfAllKinds() {
        due("4: one number alone, and all alike", x.squares(4, -2, 0), 8 + 16);
        due("2: two alike, two 0", x.squares(2, -2, 0), 24);
        due("3: three alike", x.squares(3, -2, 0), 32);
        due("30: all apart", x.squares(30, -2, 0), 8 * 72);
        due("30: how many bases", x.squares(30, -1, 0), 2);
    }

    void promise25_iDoesNotMatterWhereHowManyIsAsked() {
        for (int i : new int[] {0, 3, 4, -1, MIN, MAX}) {
            due("rows", x.squares(4, -2, i), 24);
            due("bases", x.squares(4, -1, i), 2);
        }
    }

    void promise25_kBelowMinus2IsOutside() {
        for (int k : new int[] {-3, -4, MIN}) {
            lets("base " + k, OUTSIDE, d -> d.squares(4, k, 0));
        }
    }

    void promise25_noBaseKIsNot() {
        for (int k : new int[] {2, 3, 40, 256, 65536, MAX}) {
            lets("base " + k, NOT, d -> d.squares(4, k, 0));
        }
    }

    void promise25_numbers0To3OthersAreOutside() {
        outside("number", beside(4), (d, i) -> d.squares(4, 0, i));
        outside("number of the last", beside(4), (d, i) -> d.squares(4, 1, i));
    }

    void promise25_outsideIsAheadOfNot() {
        outside("no base k, i", beside(4), (d, i) -> d.squares(4, 2, i));
        outside("no base k, n", beside(151), (d, n) -> d.squares(n, 99, 0));
    }

    void promise25_toAskChangesNothing() {
        lets("rows", 24, d -> d.squares(4, -2, 0));
        lets("bases", 2, d -> d.squares(4, -1, 0));
        lets("a base", 1, d -> d.squares(4, 1, 3));
    }

    // ---- turned

    private void dueTurned(int axis, int b, int c, int d) {
        int[] want = {b, c, d};
        for (int i = 0; i < 3; i++) {
            due("axis " + axis + ", number " + i, x.turned(0, axis, i), want[i]);
        }
    }

    void promise26_by0AllIs0() {
        dueTurned(0, 0, 0, 0);
        dueTurned(1, 0, 0, 0);
        dueTurned(2, 0, 0, 0);
    }

    void promise26_by1AllIsLetBe() {
        for (int a : new int[] {2, -2}) {
            x.set(0, a, 0, 0, 0);
            dueTurned(0, 2, 0, 0);
            dueTurned(1, 0, 2, 0);
            dueTurned(2, 0, 0, 2);
        }
    }

    void promise26_byAHalfUnitTheAxesChangePlaces() {
        x.set(0, 1, 1, 1, 1);
        dueTurned(0, 0, 2, 0);
        dueTurned(1, 0, 0, 2);
        dueTurned(2, 2, 0, 0);
        x.set(0, 0, 2, 0, 0);
        dueTurned(0, 2, 0, 0);
        dueTurned(1, 0, -2, 0);
        dueTurned(2, 0, 0, -2);
    }

    void promise26_theGreatestNumbers() {
        x.set(0, 24, 0, 0, 0);
        dueTurned(0, 288, 0, 0);
        x.set(0, 0, 24, 0, 0);
        dueTurned(1, 0, -288, 0);
        x.set(0, 24, 4, 2, 2);
        // 144 + 4 - 1 - 1; 2 (2 + 12); 2 (2 - 12)
        dueTurned(0, 2 * 146, 2 * 28, -2 * 20);
    }

    void promise26_axes0To2OthersAreOutside() {
        outside("axis", beside(3), (d, axis) -> d.turned(0, axis, 0));
        outside("of 0, axis", beside(3), (d, axis) -> d.turned(3, axis, 2));
    }

    void promise26_numbers0To2OthersAreOutside() {
        outside("number", beside(3), (d, i) -> d.turned(0, 0, i));
        outside("number", beside(3), (d, i) -> d.turned(5, 2, i));
    }

    void promise26_noSuchSlotIsUnknown() {
        unknownSlots("turned", (d, slot) -> d.turned(slot, 0, 0));
    }

    void promise26_unknownIsAheadOfOutside() {
        unknownSlots("axis 3", (d, slot) -> d.turned(slot, 3, 0));
        unknownSlots("i 3", (d, slot) -> d.turned(slot, 0, 3));
        unknownSlots("i -1", (d, slot) -> d.turned(slot, 0, -1));
    }

    void promise26_toAskChangesNothing() {
        lets("turned", 2 * 146, d -> d.turned(2, 0, 0));
    }

    // ---- rank

    private void dueRanks(int... want) {
        for (int k = 0; k < 6; k++) {
            due("rank " + k, x.rank(k), want[k]);
        }
    }

    void promise27_ranks0To5OthersAreOutside() {
        outside("rank", beside(6), (d, k) -> d.rank(k));
    }

    void promise27_ofAllLikeTheLeastSlotFirst() {
        dueRanks(0, 1, 2, 3, 4, 5);
        for (int slot = 0; slot < 6; slot++) {
            x.set(slot, 24, 4, 2, 2);
        }
        dueRanks(0, 1, 2, 3, 4, 5);
    }

    void promise27_theLeastNormFirst() {
        x.set(0, 24, 4, 2, 2);
        x.set(1, 24, 4, 2, 0);
        x.set(2, 2, 2, 0, 0);
        x.set(3, 2, 0, 0, 0);
        x.set(4, -1, -1, -1, -3);
        dueRanks(5, 3, 2, 4, 1, 0);
    }

    void promise27_ofLikeNormsTheGreaterFirst() {
        x.set(0, -2, 0, 0, 0);
        x.set(1, 1, -1, 1, 1);
        x.set(2, 1, 1, -1, 1);
        x.set(3, 1, 1, 1, -1);
        x.set(4, 1, 1, 1, 1);
        x.set(5, 2, 0, 0, 0);
        dueRanks(5, 4, 3, 2, 1, 0);
    }

    void promise27_ofTheSameTheLeastSlotFirst() {
        x.set(5, 2, 0, 0, 0);
        x.set(3, 2, 0, 0, 0);
        x.set(4, 4, 0, 0, 0);
        x.set(0, 4, 0, 0, 0);
        dueRanks(1, 2, 3, 5, 0, 4);
    }

    void promise27_toAskChangesNothing() {
        lets("rank", 2, d -> d.rank(5));
        lets("rank", 3, d -> d.rank(0));
    }
}
