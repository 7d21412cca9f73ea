/** Boundary cases of the TALLIES, of the LATEST and of what is counted. */
public final class TallyBoundaryTest extends Boundary {
    public static void main(String[] args) throws Exception {
        runAll(TallyBoundaryTest.class, 28, 29, 30, 31, 32, 33);
    }

    private interface OfNumber {
        int on(QuaternionDesk x, int number);
    }

    private void each(String call, int want, int[] numbers, OfNumber made) {
        for (int number : numbers) {
            lets(call + " " + number, want, d -> made.on(d, number));
        }
    }

    /** What stands at a place: it becomes what it is, and so does the LATEST. */
    private int place(int tally, int i) {
        x.work(tally, 5, i, i);
        return x.latest();
    }

    private void duePlaces(int tally, int... want) {
        for (int i = 0; i < want.length; i++) {
            due("place " + i, place(tally, i), want[i]);
        }
        due("behind the last", x.work(tally, 5, want.length, 0), INDEX);
    }

    // ---- tally

    void promise28_theLeastIsOfNoInts() {
        due("tally", x.tally(0, 0), 0);
        due("ints", x.count(4), 0);
        due("it has no place", x.load(0, 0, 0), INDEX);
        due("it is not missing", x.drop(0), 0);
    }

    void promise28_theGreatestIsOf6Ints() {
        due("tally", x.tally(2, 6), 6);
        due("ints", x.count(4), 6);
        duePlaces(2, 0, 0, 0, 0, 0, 0);
        due("it had", x.drop(2), 6);
    }

    void promise28_moreThan6IsOutside() {
        each("tally of", OUTSIDE, new int[] {7, 8, 256, 65536, MAX}, (d, n) -> d.tally(0, n));
        each("a missing tally of", OUTSIDE, new int[] {7, 8, 256, 65536, MAX}, (d, n) -> d.tally(2, n));
    }

    void promise28_fewerThanNoneIsSize() {
        each("tally of", SIZE, new int[] {-1, -2, -65536, MIN}, (d, n) -> d.tally(0, n));
        each("a missing tally of", SIZE, new int[] {-1, -2, -65536, MIN}, (d, n) -> d.tally(2, n));
    }

    void promise28_noSuchTallyIsUnknown() {
        each("tally", UNKNOWN, beside(3), (d, tally) -> d.tally(tally, 6));
    }

    void promise28_unknownIsAheadOfOutsideAndSize() {
        each("7 ints on tally", UNKNOWN, beside(3), (d, tally) -> d.tally(tally, 7));
        each("-1 ints on tally", UNKNOWN, beside(3), (d, tally) -> d.tally(tally, -1));
    }

    void promise28_aNewOneIs0AtEachPlace() {
        x.set(0, 24, 4, 2, 2);
        x.tally(1, 6);
        for (int i = 0; i < 6; i++) {
            x.load(1, i, 0);
        }
        due("shorter", x.tally(1, 2), 2);
        duePlaces(1, 0, 0);
        due("longer", x.tally(1, 6), 6);
        duePlaces(1, 0, 0, 0, 0, 0, 0);
        x.load(1, 5, 0);
        x.drop(1);
        x.tally(1, 6);
        duePlaces(1, 0, 0, 0, 0, 0, 0);
    }

    void promise28_theOtherTalliesAreLetBe() {
        x.set(0, 2, 0, 0, 0);
        for (int t = 0; t < 3; t++) {
            x.tally(t, 2);
            x.load(t, 1, 0);
        }
        x.tally(1, 3);
        duePlaces(0, 0, 1);
        duePlaces(1, 0, 0, 0);
        duePlaces(2, 0, 1);
    }

    // ---- load

    void promise29_theFirstAndTheLastPlace() {
        x.set(0, 2, 0, 0, 0);
        x.set(5, 24, 4, 2, 2);
        x.tally(2, 6);
        due("the first", x.load(2, 0, 5), 150);
        due("the last", x.load(2, 5, 0), 1);
        duePlaces(2, 150, 0, 0, 0, 0, 1);
        due("of 0", x.load(2, 0, 3), 0);
        duePlaces(2, 0, 0, 0, 0, 0, 1);
    }

    void promise29_theLatestIsLetBe() {
        busy(x);
        x.load(0, 0, 5);
        due("latest", x.latest(), 14);
    }

    void promise29_noSuchTallyIsUnknown() {
        each("tally", UNKNOWN, beside(3), (d, tally) -> d.load(tally, 0, 0));
    }

    void promise29_noSuchSlotIsUnknown() {
        each("slot", UNKNOWN, beside(6), (d, slot) -> d.load(0, 0, slot));
    }

    void promise29_aMissingTallyIsNull() {
        lets("missing at first", NULL, d -> d.load(2, 0, 0));
        lets("dropped", NULL, d -> {
            busy(d);
            d.drop(0);
        }, d -> d.load(0, 0, 0));
    }

    void promise29_noSuchPlaceIsIndex() {
        each("place", INDEX, beside(4), (d, i) -> d.load(0, i, 0));
        each("none at all, place", INDEX, new int[] {0, 1, -1, MIN, MAX}, (d, i) -> d.load(1, i, 0));
    }

    void promise29_noSuchPlaceOf6IsIndex() {
        for (int i : beside(6)) {
            lets("place " + i, INDEX, d -> d.tally(0, 6), d -> d.load(0, i, 0));
        }
    }

    void promise29_unknownIsAheadOfNull() {
        each("missing, slot", UNKNOWN, beside(6), (d, slot) -> d.load(2, 0, slot));
        lets("tally 3, slot 6", UNKNOWN, d -> d.load(3, 0, 6));
    }

    void promise29_unknownIsAheadOfIndex() {
        each("place 4, slot", UNKNOWN, beside(6), (d, slot) -> d.load(0, 4, slot));
        each("place 4, tally", UNKNOWN, beside(3), (d, tally) -> d.load(tally, 4, 0));
    }

    void promise29_nullIsAheadOfIndex() {
        each("missing, place", NULL, beside(4), (d, i) -> d.load(2, i, 0));
    }

    // ---- work

    /** Tally 0 becomes 0, 1, -1, the greatest int, the least int, 12. */
    private static void extremes(QuaternionDesk x) {
        busy(x);
        x.set(0, 16, 16, 0, 0);
        x.set(1, 4, 0, 0, 0);
        x.set(2, 2, 0, 0, 0);
        x.set(3, 6, 2, 2, 2);
        x.tally(0, 6);
        x.load(0, 3, 0);
        x.work(0, 2, 3, 3);
        x.work(0, 2, 3, 3);
        // 2^28, by 4
        x.load(0, 1, 1);
        x.work(0, 2, 3, 1);
        // less 2^30, twice
        x.work(0, 1, 4, 3);
        x.work(0, 1, 4, 3);
        x.load(0, 1, 2);
        x.work(0, 1, 2, 1);
        // -1 less the least int
        x.work(0, 5, 3, 2);
        x.work(0, 1, 3, 4);
        x.load(0, 5, 3);
    }

    private static final int P0 = 0, P1 = 1, PMINUS = 2, PMAX = 3, PMIN = 4, P12 = 5;

    private void dueWork(int way, int i, int j, int want) {
        fresh();
        extremes(x);
        due("way " + way + " of " + i + " and " + j, x.work(0, way, i, j), 0);
        due("latest of way " + way + " of " + i + " and " + j, x.latest(), want);
        x.work(0, 5, i, i);
        due("place " + i + " of way " + way + " with " + j, x.latest(), want);
    }

    /** Refused, and nothing changes: neither the place nor the LATEST. */
    private void refuseWork(int way, int i, int j, int want) {
        fresh();
        extremes(x);
        int latest = x.latest();
        due("way " + way + " of " + i + " and " + j, x.work(0, way, i, j), want);
        due("latest of way " + way, x.latest(), latest);
        duePlaces(0, 0, 1, -1, MAX, MIN, 12);
    }

    void promise30_theExtremesAreWhatTheyShouldBe() {
        extremes(x);
        duePlaces(0, 0, 1, -1, MAX, MIN, 12);
    }

    void promise30_sumsUpToTheGreatestInt() {
        dueWork(0, PMAX, P0, MAX);
        dueWork(0, PMAX, PMINUS, MAX - 1);
        dueWork(0, PMAX, PMIN, -1);
        refuseWork(0, PMAX, P1, OVER);
        refuseWork(0, P1, PMAX, OVER);
        refuseWork(0, PMAX, PMAX, OVER);
    }

    void promise30_sumsDownToTheLeastInt() {
        dueWork(0, PMIN, P0, MIN);
        dueWork(0, PMIN, P1, MIN + 1);
        refuseWork(0, PMIN, PMINUS, OVER);
        refuseWork(0, PMINUS, PMIN, OVER);
        refuseWork(0, PMIN, PMIN, OVER);
    }

    void promise30_differencesUpToTheGreatestInt() {
        dueWork(1, PMINUS, PMIN, MAX);
        dueWork(1, PMAX, PMAX, 0);
        refuseWork(1, P0, PMIN, OVER);
        refuseWork(1, PMAX, PMINUS, OVER);
        refuseWork(1, PMAX, PMIN, OVER);
    }

    void promise30_differencesDownToTheLeastInt() {
        dueWork(1, PMINUS, PMAX, MIN);
        dueWork(1, P0, PMAX, -MAX);
        dueWork(1, PMIN, PMIN, 0);
        refuseWork(1, PMIN, P1, OVER);
        refuseWork(1, PMIN, PMAX, OVER);
    }

    void promise30_productsUpToTheGreatestInt() {
        dueWork(2, PMAX, P1, MAX);
        dueWork(2, PMAX, PMINUS, -MAX);
        dueWork(2, PMIN, P1, MIN);
        dueWork(2, PMIN, P0, 0);
        refuseWork(2, PMIN, PMINUS, OVER);
        refuseWork(2, PMINUS, PMIN, OVER);
        refuseWork(2, PMAX, P12, OVER);
        refuseWork(2, PMAX, PMAX, OVER);
        refuseWork(2, PMIN, PMIN, OVER);
        refuseWork(2, PMIN, PMAX, OVER);
    }

    void promise30_quotientsAreCutTowards0() {
        dueWork(3, PMAX, P12, 178956970);
        dueWork(3, PMIN, P12, -178956970);
        dueWork(3, PMINUS, P12, 0);
        dueWork(3, P12, PMAX, 0);
        dueWork(3, P12, PMINUS, -12);
        dueWork(3, PMAX, PMIN, 0);
        dueWork(3, PMIN, PMAX, -1);
        dueWork(3, PMIN, PMIN, 1);
        dueWork(3, P0, PMIN, 0);
    }

    void promise30_theLeastIntByMinus1IsOver() {
        refuseWork(3, PMIN, PMINUS, OVER);
        dueWork(3, PMAX, PMINUS, -MAX);
        dueWork(3, PMIN, P1, MIN);
    }

    void promise30_whatIsLeftThenHasTheSignOfTheFirst() {
        dueWork(4, PMAX, P12, 7);
        dueWork(4, PMIN, P12, -8);
        dueWork(4, PMINUS, P12, -1);
        dueWork(4, P12, PMIN, 12);
        dueWork(4, PMIN, PMAX, -1);
        dueWork(4, PMIN, PMINUS, 0);
        dueWork(4, P0, P12, 0);
    }

    void promise30_theOtherAloneIsTaken() {
        dueWork(5, P0, PMIN, MIN);
        dueWork(5, PMIN, PMAX, MAX);
        dueWork(5, PMAX, P0, 0);
        dueWork(5, P12, P12, 12);
    }

    void promise30_by0IsZero() {
        for (int way = 3; way <= 4; way++) {
            refuseWork(way, P12, P0, ZERO);
            refuseWork(way, PMIN, P0, ZERO);
            refuseWork(way, P0, P0, ZERO);
        }
    }

    void promise30_0MayStandInAllOtherWays() {
        dueWork(0, P12, P0, 12);
        dueWork(1, P12, P0, 12);
        dueWork(2, P12, P0, 0);
        dueWork(5, P12, P0, 0);
    }

    void promise30_aPlaceAndItself() {
        dueWork(0, P12, P12, 24);
        dueWork(1, P12, P12, 0);
        dueWork(2, P12, P12, 144);
        dueWork(3, P12, P12, 1);
        dueWork(4, P12, P12, 0);
    }

    void promise30_placeJIsLetBe() {
        for (int way = 0; way <= 5; way++) {
            fresh();
            extremes(x);
            due("way " + way, x.work(0, way, PMINUS, P12), 0);
            due("place j", place(0, P12), 12);
        }
    }

    void promise30_ways0To5OthersAreOutside() {
        each("way", OUTSIDE, beside(6), (d, way) -> d.work(0, way, 0, 1));
    }

    void promise30_noSuchTallyIsUnknown() {
        each("tally", UNKNOWN, beside(3), (d, tally) -> d.work(tally, 0, 0, 0));
    }

    void promise30_aMissingTallyIsNull() {
        for (int way = 0; way <= 5; way++) {
            int which = way;
            lets("way " + way, NULL, d -> d.work(2, which, 0, 0));
        }
    }

    void promise30_noSuchPlaceIsIndex() {
        for (int way = 0; way <= 5; way++) {
            int which = way;
            each("way " + way + ", i", INDEX, beside(4), (d, i) -> d.work(0, which, i, 0));
            each("way " + way + ", j", INDEX, beside(4), (d, j) -> d.work(0, which, 0, j));
            lets("none at all", INDEX, d -> d.work(1, which, 0, 0));
        }
    }

    void promise30_noSuchPlaceOf6IsIndex() {
        for (int i : beside(6)) {
            lets("i " + i, INDEX, d -> d.tally(0, 6), d -> d.work(0, 0, i, 0));
            lets("j " + i, INDEX, d -> d.tally(0, 6), d -> d.work(0, 5, 0, i));
        }
    }

    void promise30_unknownIsAheadOfOutside() {
        each("way 6, tally", UNKNOWN, beside(3), (d, tally) -> d.work(tally, 6, 0, 0));
        each("way -1, tally", UNKNOWN, beside(3), (d, tally) -> d.work(tally, -1, 9, 9));
    }

    void promise30_outsideIsAheadOfNull() {
        each("missing, way", OUTSIDE, beside(6), (d, way) -> d.work(2, way, 0, 0));
    }

    void promise30_outsideIsAheadOfIndex() {
        each("places 4, way", OUTSIDE, beside(6), (d, way) -> d.work(0, way, 4, 4));
    }

    void promise30_nullIsAheadOfIndex() {
        each("missing, i", NULL, beside(6), (d, i) -> d.work(2, 0, i, 0));
        each("missing, j", NULL, beside(6), (d, j) -> d.work(2, 3, 0, j));
    }

    void promise30_nullIsAheadOfZero() {
        lets("missing", NULL, d -> d.work(2, 3, 0, 1));
        lets("missing", NULL, d -> d.work(2, 4, 0, 0));
    }

    void promise30_indexIsAheadOfZero() {
        // place 2 is 0
        each("by 0, i", INDEX, beside(4), (d, i) -> d.work(0, 3, i, 2));
        each("left by 0, i", INDEX, beside(4), (d, i) -> d.work(0, 4, i, 2));
        each("by no place, i 0", INDEX, beside(4), (d, j) -> d.work(0, 3, 2, j));
    }

    void promise30_indexIsAheadOfOver() {
        for (int i : beside(6)) {
            refuseWork(0, i, PMAX, INDEX);
            refuseWork(0, PMAX, i, INDEX);
        }
    }

    void promise30_zeroChangesNothing() {
        lets("by 0", ZERO, d -> d.work(0, 3, 0, 2));
        lets("left by 0", ZERO, d -> d.work(0, 4, 0, 2));
    }

    void promise30_overChangesNothing() {
        lets("sum", OVER, TallyBoundaryTest::extremes, d -> d.work(0, 0, PMIN, PMIN));
        lets("product", OVER, TallyBoundaryTest::extremes, d -> d.work(0, 2, PMIN, PMINUS));
        lets("by", OVER, TallyBoundaryTest::extremes, d -> d.work(0, 3, PMIN, PMINUS));
    }

    // ---- latest

    void promise31_atFirstItIs0() {
        due("latest", x.latest(), 0);
        lets("latest", 0, d -> d.tally(0, 2), QuaternionDesk::latest);
    }

    void promise31_itIsWhatWorkMade() {
        extremes(x);
        x.work(0, 5, P0, PMIN);
        due("the least int", x.latest(), MIN);
        x.work(0, 5, P0, PMAX);
        due("the greatest int", x.latest(), MAX);
        x.work(0, 1, P0, P0);
        due("0", x.latest(), 0);
    }

    void promise31_aRefusedWorkLetsItBe() {
        busy(x);
        x.work(0, 3, 0, 2);
        x.work(0, 9, 0, 0);
        x.work(2, 0, 0, 0);
        x.work(0, 0, 0, 9);
        due("latest", x.latest(), 14);
    }

    void promise31_allOtherCallsLetItBe() {
        busy(x);
        x.tally(0, 6);
        x.load(0, 0, 2);
        x.drop(0);
        x.set(0, 2, 0, 0, 0);
        x.undo();
        x.back(0);
        x.desk();
        due("latest", x.latest(), 14);
    }

    void promise31_toAskChangesNothing() {
        lets("latest", 14, QuaternionDesk::latest);
    }

    // ---- drop

    void promise32_theLeastAndTheGreatest() {
        x.tally(0, 0);
        x.tally(2, 6);
        due("none", x.drop(0), 0);
        due("six", x.drop(2), 6);
        dueEach(NULL, x.drop(0), x.drop(1), x.drop(2));
    }

    void promise32_aMissingOneIsNull() {
        lets("missing at first", NULL, d -> d.drop(2));
        lets("dropped", NULL, d -> {
            busy(d);
            d.drop(1);
        }, d -> d.drop(1));
    }

    void promise32_itIsMissingFromNowOn() {
        busy(x);
        due("drop", x.drop(0), 4);
        due("load", x.load(0, 0, 0), NULL);
        due("work", x.work(0, 0, 0, 0), NULL);
        due("ints", x.count(4), 0);
        due("a new one", x.tally(0, 1), 1);
        due("it is there", x.drop(0), 1);
    }

    void promise32_theOthersAreLetBe() {
        busy(x);
        x.drop(1);
        duePlaces(0, 150, 14, 0, 11);
    }

    void promise32_noSuchTallyIsUnknown() {
        each("tally", UNKNOWN, beside(3), (d, tally) -> d.drop(tally));
    }

    // ---- count

    void promise33_numbers0To6OthersAreOutside() {
        each("count", OUTSIDE, beside(7), (d, what) -> d.count(what));
    }

    void promise33_slotsThatAreNot0() {
        for (int slot = 0; slot < 6; slot++) {
            due("slots", x.count(0), slot);
            x.set(slot, 0, 0, 0, -2);
        }
        due("all", x.count(0), 6);
        x.set(3, 0, 0, 0, 0);
        due("all but one", x.count(0), 5);
    }

    void promise33_allNormsTogether() {
        for (int slot = 0; slot < 6; slot++) {
            due("norms", x.count(1), 150 * slot);
            x.set(slot, 24, 4, 2, -2);
        }
        due("all", x.count(1), 900);
        x.set(0, 1, -1, 1, 1);
        due("one less", x.count(1), 751);
    }

    void promise33_howManyCanBeUndone() {
        for (int k = 0; k <= 9; k++) {
            due("undo", x.count(2), Math.min(k, 8));
            x.set(0, k % 2 == 0 ? 2 : 0, 0, 0, 0);
        }
        x.undo();
        due("one less", x.count(2), 7);
    }

    void promise33_lettersOfTheText() {
        for (int k = 0; k <= 200; k++) {
            due("letters", x.count(3), k);
            x.write(k);
        }
        due("full", x.count(3), 200);
        x.erase();
        due("empty", x.count(3), 0);
    }

    void promise33_intsOnAllTallies() {
        for (int t = 0; t < 3; t++) {
            due("ints", x.count(4), 6 * t);
            x.tally(t, 6);
        }
        due("all", x.count(4), 18);
        x.tally(1, 0);
        due("one of none", x.count(4), 12);
        x.drop(2);
        due("one missing", x.count(4), 6);
    }

    void promise33_whetherTheyAreKept() {
        dueEach(0, x.count(5), x.count(6));
        x.keep(1);
        due("not as 0", x.count(5), 0);
        due("as 1", x.count(6), 1);
        x.keep(0);
        dueEach(1, x.count(5), x.count(6));
        x.back(1);
        dueEach(1, x.count(5), x.count(6));
        write(x, "all");
        x.desk();
        dueEach(0, x.count(5), x.count(6));
    }

    void promise33_toAskChangesNothing() {
        int[] want = {5, 3 + 11 + 150 + 1 + 25, 6, 32, 4, 1, 1};
        for (int what = 0; what < 7; what++) {
            int which = what;
            lets("count " + what, want[what], d -> d.count(which));
        }
    }
}
