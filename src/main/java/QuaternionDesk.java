/**
 * A desk with six slots for quaternions with whole or half parts, told doubled.
 *
 * All rows that a call needs are made once, in the constructor, and used again: a long
 * run of calls makes no object beyond those.
 */
public final class QuaternionDesk {
    public static final int NONE = -1, UNKNOWN = -1001, OUTSIDE = -1002, NOT = -1003, FULL = -1004,
            NULL = -1011, INDEX = -1012, SIZE = -1013, ZERO = -1014, OVER = -1015;

    private static final int LEFT = 0, RIGHT = 1;
    private static final int SLOTS = 6, UNITS = 24, TALLIES = 3, PLACES = 6, KEPT = 2;
    private static final int MOST_NORM = 150;
    /** The greatest number of a quaternion of norm 150: 25 times 25 is above 4 times 150. */
    private static final int MOST_PART = 24;
    /** 128 is the product of seven primes; the unit is one factor more. */
    private static final int MOST_FACTORS = 8;

    /** The units from the greatest on, four numbers each. */
    private static final int[] UNIT_PARTS = {
        2, 0, 0, 0,
        1, 1, 1, 1, 1, 1, 1, -1, 1, 1, -1, 1, 1, 1, -1, -1,
        1, -1, 1, 1, 1, -1, 1, -1, 1, -1, -1, 1, 1, -1, -1, -1,
        0, 2, 0, 0, 0, 0, 2, 0, 0, 0, 0, 2,
        0, 0, 0, -2, 0, 0, -2, 0, 0, -2, 0, 0,
        -1, 1, 1, 1, -1, 1, 1, -1, -1, 1, -1, 1, -1, 1, -1, -1,
        -1, -1, 1, 1, -1, -1, 1, -1, -1, -1, -1, 1, -1, -1, -1, -1,
        -2, 0, 0, 0
    };

    private final Quat[] slots;
    private final Shelf[] shelves;
    private final Tally[] tallies;
    private final Past past;
    private final Script script;
    private final Division division;
    private final Heads heads;
    private final Primes primes;
    private final Parting parting;
    private final Bases bases;
    private final Quat result;
    private final Quat helper;
    private int newest;

    public QuaternionDesk() {
        slots = newQuats(SLOTS);
        shelves = new Shelf[KEPT];
        for (int k = 0; k < KEPT; k++) {
            shelves[k] = new Shelf();
        }
        tallies = new Tally[TALLIES];
        for (int t = 0; t < TALLIES; t++) {
            tallies[t] = new Tally();
        }
        past = new Past();
        script = new Script();
        division = new Division();
        heads = new Heads();
        primes = new Primes(heads, division);
        parting = new Parting(heads, division);
        bases = new Bases();
        result = new Quat();
        helper = new Quat();
        newest = 0;
    }

    // ---- what is told

    public int write(int letter) {
        if (letter < 0 || letter > 255) {
            return OUTSIDE;
        }
        if (script.isFull()) {
            return FULL;
        }
        script.append(letter);
        return script.size();
    }

    public int erase() {
        int had = script.size();
        script.clear();
        return had;
    }

    public int fault() {
        return script.findFault();
    }

    public int desk() {
        if (script.findFault() != NONE) {
            return NOT;
        }
        int clauses = script.clauses();
        for (int k = 0; k < clauses; k++) {
            doClause(k);
        }
        script.clear();
        past.clear();
        for (int k = 0; k < KEPT; k++) {
            shelves[k].clear();
        }
        for (int t = 0; t < TALLIES; t++) {
            tallies[t].discard();
        }
        return clauses;
    }

    public int number(int slot, int i) {
        if (!isSlot(slot)) {
            return UNKNOWN;
        }
        if (!isPart(i)) {
            return OUTSIDE;
        }
        return slots[slot].part(i);
    }

    public int of(int slot, int what) {
        if (!isSlot(slot)) {
            return UNKNOWN;
        }
        if (what < 0 || what > 5) {
            return OUTSIDE;
        }
        Quat q = slots[slot];
        if (what >= 3 && q.isZero()) {
            return NOT;
        }
        switch (what) {
            case 0: return q.norm();
            case 1: return unitNumber(q);
            case 2: return q.isEven() ? 1 : 0;
            case 3: return q.content();
            case 4: return primeFactors(q.norm());
            default: return Parting.chains(parting, q, 0);
        }
    }

    public int unit(int unit, int i) {
        if (!isUnit(unit)) {
            return UNKNOWN;
        }
        if (!isPart(i)) {
            return OUTSIDE;
        }
        return UNIT_PARTS[4 * unit + i];
    }

    // ---- what is done

    public int set(int slot, int a, int b, int c, int d) {
        if (!isSlot(slot)) {
            return UNKNOWN;
        }
        // the bounds come first: the squares of greater numbers might wrap around
        if (!isInReach(a) || !isInReach(b) || !isInReach(c) || !isInReach(d)) {
            return OUTSIDE;
        }
        if (((a ^ b) & 1) != 0 || ((a ^ c) & 1) != 0 || ((a ^ d) & 1) != 0) {
            return OUTSIDE;
        }
        result.put(a, b, c, d);
        if (result.norm() > MOST_NORM) {
            return OUTSIDE;
        }
        return change(slot, result);
    }

    public int add(int slot, int other) {
        if (!isSlot(slot) || !isSlot(other)) {
            return UNKNOWN;
        }
        result.becomeSum(slots[slot], slots[other]);
        if (result.norm() > MOST_NORM) {
            return NOT;
        }
        return change(slot, result);
    }

    public int times(int slot, int other, int side) {
        if (!isSlot(slot) || !isSlot(other)) {
            return UNKNOWN;
        }
        if (!isSide(side)) {
            return OUTSIDE;
        }
        result.becomeMade(slots[slot], slots[other], side);
        if (result.norm() > MOST_NORM) {
            return NOT;
        }
        return change(slot, result);
    }

    public int turn(int slot, int way) {
        if (!isSlot(slot)) {
            return UNKNOWN;
        }
        switch (way) {
            case 0:
                result.becomeConjugate(slots[slot]);
                break;
            case 1:
                heads.putHead(result, slots[slot], LEFT);
                break;
            case 2:
                heads.putHead(result, slots[slot], RIGHT);
                break;
            case 3:
                result.becomeNegative(slots[slot]);
                break;
            default:
                return OUTSIDE;
        }
        return change(slot, result);
    }

    public int divide(int slot, int other, int way, int side) {
        if (!isSlot(slot) || !isSlot(other)) {
            return UNKNOWN;
        }
        if (way < 0 || way > 1 || !isSide(side)) {
            return OUTSIDE;
        }
        if (slots[other].isZero()) {
            return NOT;
        }
        division.perform(slots[slot], slots[other], side);
        return change(slot, way == 0 ? division.quotient : division.rest);
    }

    public int common(int slot, int other, int side) {
        if (!isSlot(slot) || !isSlot(other)) {
            return UNKNOWN;
        }
        if (!isSide(side)) {
            return OUTSIDE;
        }
        if (slots[slot].isZero() && slots[other].isZero()) {
            return NOT;
        }
        division.descend(slots[slot], slots[other], side);
        heads.putHead(result, division.high, side);
        return change(slot, result);
    }

    public int undo() {
        if (past.size() == 0) {
            return NOT;
        }
        int slot = past.takeLast(result);
        if (isSlot(slot)) {
            slots[slot].copyFrom(result);
        }
        return past.size();
    }

    public int keep(int k) {
        if (k < 0 || k >= KEPT) {
            return OUTSIDE;
        }
        shelves[k].store(slots);
        return filledSlots();
    }

    public int back(int k) {
        if (k < 0 || k >= KEPT) {
            return OUTSIDE;
        }
        if (!shelves[k].isStored()) {
            return NOT;
        }
        shelves[k].restore(slots);
        past.clear();
        return filledSlots();
    }

    // ---- what is found

    public int divides(int slot, int other, int side) {
        if (!isSlot(slot) || !isSlot(other)) {
            return UNKNOWN;
        }
        if (!isSide(side)) {
            return OUTSIDE;
        }
        return division.isDivisor(slots[slot], slots[other], side) ? 1 : 0;
    }

    public int nearest(int slot, int other, int side, int i) {
        if (!isSlot(slot) || !isSlot(other)) {
            return UNKNOWN;
        }
        if (!isSide(side) || i < 0 || i > 8) {
            return OUTSIDE;
        }
        if (slots[other].isZero()) {
            return NOT;
        }
        division.perform(slots[slot], slots[other], side);
        if (i == 8) {
            return division.rest.norm();
        }
        return i < 4 ? division.quotient.part(i) : division.rest.part(i - 4);
    }

    public int steps(int slot, int other, int side) {
        if (!isSlot(slot) || !isSlot(other)) {
            return UNKNOWN;
        }
        if (!isSide(side)) {
            return OUTSIDE;
        }
        return division.descend(slots[slot], slots[other], side);
    }

    public int mate(int slot, int side, int k, int i) {
        if (!isSlot(slot)) {
            return UNKNOWN;
        }
        if (!isSide(side) || !isUnit(k) || !isPart(i)) {
            return OUTSIDE;
        }
        heads.putMate(result, slots[slot], side, k);
        return result.part(i);
    }

    public int factor(int slot, int k, int i) {
        if (!isSlot(slot)) {
            return UNKNOWN;
        }
        if (!isPart(i) || k < 0) {
            return OUTSIDE;
        }
        if (slots[slot].isZero() || !parting.putFactor(result, slots[slot], k)) {
            return NOT;
        }
        return result.part(i);
    }

    public int prime(int slot, int side, int k, int i) {
        if (!isSlot(slot)) {
            return UNKNOWN;
        }
        if (!isSide(side) || k < -1 || (k >= 0 && !isPart(i))) {
            return OUTSIDE;
        }
        if (slots[slot].isZero()) {
            return NOT;
        }
        primes.gather(slots[slot], side);
        if (k == -1) {
            return primes.rows.size();
        }
        return k < primes.rows.size() ? primes.rows.part(k, i) : NOT;
    }

    public int list(int n, int side, int k, int i) {
        if (n < 1 || n > MOST_NORM || !isSide(side) || k < -1 || (k >= 0 && !isPart(i))) {
            return OUTSIDE;
        }
        heads.gather(n, side);
        if (k == -1) {
            return heads.rows.size();
        }
        return k < heads.rows.size() ? heads.rows.part(k, i) : NOT;
    }

    public int squares(int n, int k, int i) {
        if (n < 0 || n > MOST_NORM || k < -2 || (k >= 0 && !isPart(i))) {
            return OUTSIDE;
        }
        bases.gather(n);
        if (k == -2) {
            return bases.arrangements();
        }
        if (k == -1) {
            return bases.rows.size();
        }
        return k < bases.rows.size() ? bases.rows.part(k, i) : NOT;
    }

    public int turned(int slot, int axis, int i) {
        if (!isSlot(slot)) {
            return UNKNOWN;
        }
        if (axis < 0 || axis > 2 || i < 0 || i > 2) {
            return OUTSIDE;
        }
        helper.put(0, axis == 0 ? 2 : 0, axis == 1 ? 2 : 0, axis == 2 ? 2 : 0);
        result.becomeProduct(slots[slot], helper);
        helper.becomeConjugate(slots[slot]);
        result.becomeProduct(result, helper);
        return result.part(i + 1);
    }

    public int rank(int k) {
        if (k < 0 || k >= SLOTS) {
            return OUTSIDE;
        }
        for (int slot = 0; slot < SLOTS; slot++) {
            if (slotsAheadOf(slot) == k) {
                return slot;
            }
        }
        return NONE;
    }

    // ---- tallies

    public int tally(int tally, int n) {
        if (!isTally(tally)) {
            return UNKNOWN;
        }
        if (n > PLACES) {
            return OUTSIDE;
        }
        if (n < 0) {
            return SIZE;
        }
        tallies[tally].begin(n);
        return n;
    }

    public int load(int tally, int i, int slot) {
        if (!isTally(tally) || !isSlot(slot)) {
            return UNKNOWN;
        }
        Tally t = tallies[tally];
        if (t.isMissing()) {
            return NULL;
        }
        if (!t.hasPlace(i)) {
            return INDEX;
        }
        int norm = slots[slot].norm();
        t.store(i, norm);
        return norm;
    }

    public int work(int tally, int way, int i, int j) {
        if (!isTally(tally)) {
            return UNKNOWN;
        }
        if (way < 0 || way > 5) {
            return OUTSIDE;
        }
        Tally t = tallies[tally];
        if (t.isMissing()) {
            return NULL;
        }
        if (!t.hasPlace(i) || !t.hasPlace(j)) {
            return INDEX;
        }
        int second = t.at(j);
        if (second == 0 && (way == 3 || way == 4)) {
            return ZERO;
        }
        long made = calculate(way, t.at(i), second);
        if (made != (int) made) {
            return OVER;
        }
        newest = (int) made;
        t.store(i, newest);
        return 0;
    }

    public int latest() {
        return newest;
    }

    public int drop(int tally) {
        if (!isTally(tally)) {
            return UNKNOWN;
        }
        if (tallies[tally].isMissing()) {
            return NULL;
        }
        int had = tallies[tally].size();
        tallies[tally].discard();
        return had;
    }

    public int count(int what) {
        switch (what) {
            case 0: return filledSlots();
            case 1: return allNorms();
            case 2: return past.size();
            case 3: return script.size();
            case 4: return allPlaces();
            case 5: return shelves[0].isStored() ? 1 : 0;
            case 6: return shelves[1].isStored() ? 1 : 0;
            default: return OUTSIDE;
        }
    }

    // ---- helpers of the calls

    private static boolean isSlot(int slot) {
        return slot >= 0 && slot < SLOTS;
    }

    private static boolean isUnit(int unit) {
        return unit >= 0 && unit < UNITS;
    }

    private static boolean isTally(int tally) {
        return tally >= 0 && tally < TALLIES;
    }

    private static boolean isSide(int side) {
        return side == LEFT || side == RIGHT;
    }

    private static boolean isPart(int i) {
        return i >= 0 && i < 4;
    }

    private static boolean isInReach(int part) {
        return part >= -MOST_PART && part <= MOST_PART;
    }

    private static Quat[] newQuats(int many) {
        Quat[] row = new Quat[Math.max(many, 0)];
        for (int i = 0; i < row.length; i++) {
            row[i] = new Quat();
        }
        return row;
    }

    /** How many primes, like ones each, make n as their product. */
    private static int primeFactors(int n) {
        int left = n;
        int found = 0;
        for (int p = 2; p <= n; p++) {
            for (int i = 0; i < MOST_FACTORS && left > 1 && left % p == 0; i++) {
                left /= p;
                found++;
            }
        }
        return found;
    }

    private static long calculate(int way, long first, long second) {
        switch (way) {
            case 0: return first + second;
            case 1: return first - second;
            case 2: return first * second;
            case 3: return second == 0 ? 0 : first / second;
            case 4: return second == 0 ? 0 : first % second;
            default: return second;
        }
    }

    private int unitNumber(Quat q) {
        for (int k = 0; k < UNITS; k++) {
            helper.putUnit(k);
            if (helper.isSame(q)) {
                return k;
            }
        }
        return NONE;
    }

    /** Puts a new quaternion in a slot, so that it can be undone: its norm. */
    private int change(int slot, Quat now) {
        if (!isSlot(slot)) {
            return UNKNOWN;
        }
        past.append(slot, slots[slot]);
        slots[slot].copyFrom(now);
        return now.norm();
    }

    private void doClause(int k) {
        int slot = script.word(k, Script.SLOT);
        int first = script.word(k, Script.FIRST);
        if (!isSlot(slot)) {
            return;
        }
        switch (script.word(k, Script.KIND)) {
            case Script.ALL:
                for (int s = 0; s < SLOTS; s++) {
                    slots[s].put(0, 0, 0, 0);
                }
                break;
            case Script.PUT:
                slots[slot].put(first, script.word(k, Script.FIRST + 1),
                        script.word(k, Script.FIRST + 2), script.word(k, Script.FIRST + 3));
                break;
            case Script.UNIT:
                slots[slot].putUnit(first);
                break;
            case Script.COPY:
                if (isSlot(first)) {
                    slots[slot].copyFrom(slots[first]);
                }
                break;
            default:
                break;
        }
    }

    private int filledSlots() {
        int filled = 0;
        for (int slot = 0; slot < SLOTS; slot++) {
            if (!slots[slot].isZero()) {
                filled++;
            }
        }
        return filled;
    }

    private int allNorms() {
        int sum = 0;
        for (int slot = 0; slot < SLOTS; slot++) {
            sum += slots[slot].norm();
        }
        return sum;
    }

    private int allPlaces() {
        int sum = 0;
        for (int t = 0; t < TALLIES; t++) {
            sum += tallies[t].size();
        }
        return sum;
    }

    private int slotsAheadOf(int slot) {
        int ahead = 0;
        for (int other = 0; other < SLOTS; other++) {
            if (isAhead(other, slot)) {
                ahead++;
            }
        }
        return ahead;
    }

    private boolean isAhead(int slot, int other) {
        if (!isSlot(slot) || !isSlot(other)) {
            return false;
        }
        Quat q = slots[slot];
        Quat r = slots[other];
        if (q.norm() != r.norm()) {
            return q.norm() < r.norm();
        }
        return q.isSame(r) ? slot < other : q.isGreaterThan(r);
    }

    // ---- the classes inside

    /** Four numbers, doubled: all even or all odd. */
    private static final class Quat {
        private int a, b, c, d;

        void put(int newA, int newB, int newC, int newD) {
            a = newA;
            b = newB;
            c = newC;
            d = newD;
        }

        void copyFrom(Quat other) {
            put(other.a, other.b, other.c, other.d);
        }

        void putUnit(int unit) {
            if (isUnit(unit)) {
                int at = 4 * unit;
                put(UNIT_PARTS[at], UNIT_PARTS[at + 1], UNIT_PARTS[at + 2], UNIT_PARTS[at + 3]);
            }
        }

        int part(int i) {
            switch (i) {
                case 0: return a;
                case 1: return b;
                case 2: return c;
                default: return d;
            }
        }

        int norm() {
            return (a * a + b * b + c * c + d * d) / 4;
        }

        boolean isZero() {
            return a == 0 && b == 0 && c == 0 && d == 0;
        }

        /** One number tells it of all. */
        boolean isEven() {
            return (a & 1) == 0;
        }

        boolean isSame(Quat other) {
            return a == other.a && b == other.b && c == other.c && d == other.d;
        }

        boolean isGreaterThan(Quat other) {
            if (a != other.a) {
                return a > other.a;
            }
            if (b != other.b) {
                return b > other.b;
            }
            return c != other.c ? c > other.c : d > other.d;
        }

        void becomeSum(Quat x, Quat y) {
            put(x.a + y.a, x.b + y.b, x.c + y.c, x.d + y.d);
        }

        void becomeDifference(Quat x, Quat y) {
            put(x.a - y.a, x.b - y.b, x.c - y.c, x.d - y.d);
        }

        void becomeConjugate(Quat x) {
            put(x.a, -x.b, -x.c, -x.d);
        }

        void becomeNegative(Quat x) {
            put(-x.a, -x.b, -x.c, -x.d);
        }

        /** Either of the two may be this one itself. */
        void becomeProduct(Quat x, Quat y) {
            int newA = x.a * y.a - x.b * y.b - x.c * y.c - x.d * y.d;
            int newB = x.a * y.b + x.b * y.a + x.c * y.d - x.d * y.c;
            int newC = x.a * y.c - x.b * y.d + x.c * y.a + x.d * y.b;
            int newD = x.a * y.d + x.b * y.c - x.c * y.b + x.d * y.a;
            a = newA / 2;
            b = newB / 2;
            c = newC / 2;
            d = newD / 2;
        }

        void becomeMade(Quat divisor, Quat x, int side) {
            if (side == LEFT) {
                becomeProduct(divisor, x);
            } else {
                becomeProduct(x, divisor);
            }
        }

        /** The greatest n so that this is n times a quaternion (1 for 0, which no call asks). */
        int content() {
            for (int n = MOST_PART; n > 1 && !isZero(); n--) {
                if (isTimes(n)) {
                    return n;
                }
            }
            return 1;
        }

        /** Is this n times a quaternion, number by number? */
        boolean isTimes(int n) {
            if (n < 1 || a % n != 0 || b % n != 0 || c % n != 0 || d % n != 0) {
                return false;
            }
            int first = a / n;
            return ((first ^ (b / n)) & 1) == 0 && ((first ^ (c / n)) & 1) == 0
                    && ((first ^ (d / n)) & 1) == 0;
        }
    }

    /** Rows of four numbers, up to a bound that is told when it is made. */
    private static final class Rows {
        private final int[] parts;
        private int filled;

        Rows(int most) {
            parts = new int[4 * Math.max(most, 0)];
            filled = 0;
        }

        void clear() {
            filled = 0;
        }

        int size() {
            return filled;
        }

        void append(int a, int b, int c, int d) {
            int at = 4 * filled;
            if (at < 0 || at + 3 >= parts.length) {
                return;
            }
            parts[at] = a;
            parts[at + 1] = b;
            parts[at + 2] = c;
            parts[at + 3] = d;
            filled++;
        }

        int part(int row, int i) {
            if (row < 0 || row >= filled || !isPart(i)) {
                return 0;
            }
            int at = 4 * row + i;
            return at < parts.length ? parts[at] : 0;
        }

        void putRow(Quat out, int row) {
            out.put(part(row, 0), part(row, 1), part(row, 2), part(row, 3));
        }
    }

    /** The nearest quotient and its rest; common divisors by steps of division. */
    private static final class Division {
        /** Each rest has at most half the norm of its divisor; so this is far above need. */
        private static final int MOST_STEPS = 1000;

        private final Quat quotient = new Quat();
        private final Quat rest = new Quat();
        private final Quat conjugate = new Quat();
        private final Quat exact = new Quat();
        private final Quat odd = new Quat();
        private final Quat product = new Quat();
        private final Quat high = new Quat();
        private final Quat low = new Quat();

        /** The divisor is not 0 (by 0 the quotient would be 0, and all of q the rest). */
        void perform(Quat q, Quat divisor, int side) {
            quotient.put(0, 0, 0, 0);
            int n = divisor.norm();
            if (n > 0) {
                // the rest's norm is n times that of the true quotient less x: so x has to be
                // near to the true quotient, of which this is n times as much
                conjugate.becomeConjugate(divisor);
                exact.becomeMade(conjugate, q, side);
                quotient.put(nearEven(exact.a, n), nearEven(exact.b, n),
                        nearEven(exact.c, n), nearEven(exact.d, n));
                odd.put(nearOdd(exact.a, n), nearOdd(exact.b, n),
                        nearOdd(exact.c, n), nearOdd(exact.d, n));
                int less = distance(quotient, n) - distance(odd, n);
                if (less > 0 || (less == 0 && odd.isGreaterThan(quotient))) {
                    quotient.copyFrom(odd);
                }
            }
            product.becomeMade(divisor, quotient, side);
            rest.becomeDifference(q, product);
        }

        /**
         * Divides, and then each divisor by its rest, until there is none: how often. What high
         * is then, is a common divisor of the greatest norm.
         */
        int descend(Quat q, Quat divisor, int side) {
            high.copyFrom(q);
            low.copyFrom(divisor);
            int taken = 0;
            for (int i = 0; i < MOST_STEPS && !low.isZero(); i++) {
                perform(high, low, side);
                high.copyFrom(low);
                low.copyFrom(rest);
                taken++;
            }
            return taken;
        }

        boolean isDivisor(Quat divisor, Quat q, int side) {
            int n = divisor.norm();
            if (n == 0) {
                return q.isZero();
            }
            conjugate.becomeConjugate(divisor);
            exact.becomeMade(conjugate, q, side);
            return exact.isTimes(n);
        }

        /** The even number next to part / n, of two the greater one. */
        private static int nearEven(int part, int n) {
            return n > 0 ? 2 * Math.floorDiv(part + n, 2 * n) : 0;
        }

        /** The odd number next to part / n, of two the greater one. */
        private static int nearOdd(int part, int n) {
            return n > 0 ? 2 * Math.floorDiv(part, 2 * n) + 1 : 1;
        }

        private int distance(Quat x, int n) {
            int a = exact.a - n * x.a;
            int b = exact.b - n * x.b;
            int c = exact.c - n * x.c;
            int d = exact.d - n * x.d;
            return a * a + b * b + c * c + d * d;
        }
    }

    /** Mates by the units, the greatest of them, and all heads of a norm. */
    private static final class Heads {
        /** Norm 135 has the most: the sum of its odd divisors. */
        private static final int MOST_HEADS = 240;

        private final Rows rows = new Rows(MOST_HEADS);
        private final Quat candidate = new Quat();
        private final Quat unit = new Quat();
        private final Quat product = new Quat();
        /** At each place the greatest whole number whose square is not above it. */
        private final int[] roots = new int[4 * MOST_NORM + 1];

        Heads() {
            int root = 0;
            for (int i = 0; i < roots.length; i++) {
                if ((root + 1) * (root + 1) <= i) {
                    root++;
                }
                roots[i] = root;
            }
        }

        void putMate(Quat out, Quat q, int side, int k) {
            unit.putUnit(k);
            out.becomeMade(q, unit, side);
        }

        void putHead(Quat out, Quat q, int side) {
            out.copyFrom(q);
            for (int k = 1; k < UNITS; k++) {
                putMate(product, q, side, k);
                if (product.isGreaterThan(out)) {
                    out.copyFrom(product);
                }
            }
        }

        /**
         * A head's first number is not below its other ones together, without their signs: else
         * some unit with odd numbers would make a greater first number. So its square is not
         * below the squares of the others together.
         */
        void gather(int n, int side) {
            rows.clear();
            for (int a = MOST_PART; a > 0; a--) {
                int restA = 4 * n - a * a;
                if (restA < 0 || restA > a * a) {
                    continue;
                }
                int mostB = likeRoot(restA, a);
                for (int b = mostB; b >= -mostB; b -= 2) {
                    int restB = restA - b * b;
                    int mostC = likeRoot(restB, a);
                    for (int c = mostC; c >= -mostC; c -= 2) {
                        offer(a, b, c, restB - c * c, side);
                    }
                }
            }
        }

        /** The greatest number, even or odd as a is, whose square is not above n; -1: none. */
        private int likeRoot(int n, int a) {
            if (n < 0 || n >= roots.length) {
                return -1;
            }
            int root = roots[n];
            return ((root ^ a) & 1) == 0 ? root : root - 1;
        }

        private void offer(int a, int b, int c, int restC, int side) {
            int d = likeRoot(restC, a);
            if (d < 0 || d * d != restC) {
                return;
            }
            int others = Math.abs(b) + Math.abs(c) + d;
            if (others > a) {
                return;
            }
            candidate.put(a, b, c, d);
            if (others < a || isHead(side)) {
                rows.append(a, b, c, d);
            }
            candidate.put(a, b, c, -d);
            if (d > 0 && (others < a || isHead(side))) {
                rows.append(a, b, c, -d);
            }
        }

        private boolean isHead(int side) {
            for (int k = 1; k < UNITS; k++) {
                unit.putUnit(k);
                product.becomeMade(candidate, unit, side);
                if (product.isGreaterThan(candidate)) {
                    return false;
                }
            }
            return true;
        }
    }

    /** The heads of prime norm that divide a quaternion. */
    private static final class Primes {
        /** 11 has the most, 12; those of 7 and one more are 9. */
        private static final int MOST_PRIMES = 16;

        private final Rows rows = new Rows(MOST_PRIMES);
        private final Heads heads;
        private final Division division;
        private final Quat head = new Quat();

        Primes(Heads theHeads, Division theDivision) {
            heads = theHeads;
            division = theDivision;
        }

        void gather(Quat q, int side) {
            rows.clear();
            int left = q.norm();
            for (int p = 2; p <= MOST_NORM && left > 1; p++) {
                if (left % p == 0) {
                    heads.gather(p, side);
                    takeDivisors(q, side);
                }
                for (int i = 0; i < MOST_FACTORS && left % p == 0; i++) {
                    left /= p;
                }
            }
        }

        private void takeDivisors(Quat q, int side) {
            int many = heads.rows.size();
            for (int k = 0; k < many; k++) {
                heads.rows.putRow(head, k);
                if (division.isDivisor(head, q, side)) {
                    rows.append(head.a, head.b, head.c, head.d);
                }
            }
        }
    }

    /** Quaternions taken apart on the left; a level for each factor that is taken away. */
    private static final class Parting {
        private final Division division;
        private final Primes[] primes = new Primes[MOST_FACTORS];
        private final Quat[] left = newQuats(MOST_FACTORS);
        private final Quat taken = new Quat();

        Parting(Heads heads, Division theDivision) {
            division = theDivision;
            for (int level = 0; level < MOST_FACTORS; level++) {
                primes[level] = new Primes(heads, theDivision);
            }
        }

        /** Puts factor k of q, which is not 0; false: there is none. */
        boolean putFactor(Quat out, Quat q, int k) {
            Quat now = left[0];
            now.copyFrom(q);
            for (int i = 0; i < MOST_FACTORS && !now.isZero(); i++) {
                if (now.norm() == 1) {
                    out.copyFrom(now);
                    return i == k;
                }
                // the primes begin with the greatest one of the least norm: the next factor
                primes[0].gather(now, LEFT);
                primes[0].rows.putRow(out, 0);
                if (i == k) {
                    return true;
                }
                division.perform(now, out, LEFT);
                now.copyFrom(division.quotient);
            }
            return false;
        }

        /**
         * In how many chains q, which is not 0, can be made. A chain's second head is a prime
         * that divides q; all behind it, each by that prime, are (but for units) a chain of
         * what is left of q by it. Level: how many primes are taken away already.
         */
        private static int chains(Parting parting, Quat q, int level) {
            if (q.norm() <= 1) {
                return 1;
            }
            if (level < 0 || level >= MOST_FACTORS) {
                return 0;
            }
            Rows rows = parting.primes[level].rows;
            Quat next = parting.left[level];
            parting.primes[level].gather(q, LEFT);
            int sum = 0;
            for (int k = 0; k < rows.size(); k++) {
                rows.putRow(parting.taken, k);
                parting.division.perform(q, parting.taken, LEFT);
                next.copyFrom(parting.division.quotient);
                sum += chains(parting, next, level + 1);
            }
            return sum;
        }
    }

    /** Rows of four whole numbers, none below 0, that nowhere rise. */
    private static final class Bases {
        /** Above need: no number up to 150 has more than 11. */
        private static final int MOST_BASES = 40;
        private static final int MOST_ROOT = 12;

        private final Rows rows = new Rows(MOST_BASES);

        void gather(int n) {
            rows.clear();
            for (int w = MOST_ROOT; w >= 0; w--) {
                int restW = n - w * w;
                // four numbers up to w make at most this
                if (restW < 0 || restW > 3 * w * w) {
                    continue;
                }
                for (int x = w; x >= 0; x--) {
                    for (int y = x; y >= 0; y--) {
                        offer(w, x, y, restW - x * x - y * y);
                    }
                }
            }
        }

        private void offer(int w, int x, int y, int rest) {
            for (int z = 0; z <= y && z * z <= rest; z++) {
                if (z * z == rest) {
                    rows.append(w, x, y, z);
                }
            }
        }

        /** How many rows the bases make in any order, with any signs. */
        int arrangements() {
            int sum = 0;
            for (int k = 0; k < rows.size(); k++) {
                sum += arrangementsOf(k);
            }
            return sum;
        }

        private int arrangementsOf(int row) {
            int made = 1;
            int like = 0;
            for (int i = 0; i < 4; i++) {
                int part = rows.part(row, i);
                like = i > 0 && part == rows.part(row, i - 1) ? like + 1 : 1;
                // the next number has i + 1 places to go to; like ones can't be told apart
                made = made * (i + 1) / Math.max(like, 1) * (part == 0 ? 1 : 2);
            }
            return made;
        }
    }

    /** What the last calls that can be undone found in their slots. */
    private static final class Past {
        private static final int MOST_PAST = 8;

        private final int[] places = new int[MOST_PAST];
        private final Quat[] before = newQuats(MOST_PAST);
        private int begin = 0;
        private int filled = 0;

        void clear() {
            filled = 0;
        }

        int size() {
            return filled;
        }

        void append(int slot, Quat q) {
            int at = Math.floorMod(begin + filled, MOST_PAST);
            places[at] = slot;
            before[at].copyFrom(q);
            if (filled < MOST_PAST) {
                filled++;
            } else {
                begin = Math.floorMod(begin + 1, MOST_PAST);
            }
        }

        /** The slot of the latest one, which is taken away, and what it had; NONE: none. */
        int takeLast(Quat out) {
            if (filled <= 0) {
                return NONE;
            }
            filled--;
            int at = Math.floorMod(begin + filled, MOST_PAST);
            out.copyFrom(before[at]);
            return places[at];
        }
    }

    /** All slots as they were kept. */
    private static final class Shelf {
        private final Quat[] stored = newQuats(SLOTS);
        private boolean isFilled = false;

        void clear() {
            isFilled = false;
        }

        boolean isStored() {
            return isFilled;
        }

        void store(Quat[] from) {
            for (int i = 0; i < stored.length && i < from.length; i++) {
                stored[i].copyFrom(from[i]);
            }
            isFilled = true;
        }

        void restore(Quat[] to) {
            for (int i = 0; i < stored.length && i < to.length; i++) {
                to[i].copyFrom(stored[i]);
            }
        }
    }

    /** A row of up to six ints, or missing. */
    private static final class Tally {
        private final int[] places = new int[PLACES];
        private int filled = 0;
        private boolean isThere = false;

        boolean isMissing() {
            return !isThere;
        }

        int size() {
            return filled;
        }

        boolean hasPlace(int i) {
            return i >= 0 && i < filled;
        }

        void begin(int n) {
            isThere = true;
            filled = Math.min(Math.max(n, 0), PLACES);
            for (int i = 0; i < PLACES; i++) {
                places[i] = 0;
            }
        }

        void discard() {
            isThere = false;
            filled = 0;
        }

        int at(int i) {
            return i >= 0 && i < PLACES ? places[i] : 0;
        }

        void store(int i, int value) {
            if (i >= 0 && i < PLACES) {
                places[i] = value;
            }
        }
    }

    /** The text, and its clauses as far as they have been read. */
    private static final class Script {
        private static final int ALL = 0, PUT = 1, UNIT = 2, COPY = 3;
        private static final int KIND = 0, SLOT = 1, FIRST = 2;
        private static final int MOST_LETTERS = 200, MOST_CLAUSES = 24, WORDS = 6;
        private static final int END = 0, NAME = 1, DIGITS = 2, SIGN = 3;

        private final int[] letters = new int[MOST_LETTERS];
        private final int[] words = new int[WORDS * MOST_CLAUSES];
        private int filled = 0;
        private int read = 0;
        /** The token that is looked at: its kind, where it begins, where the next letter is. */
        private int kind = END;
        private int begin = 0;
        private int behind = 0;

        boolean isFull() {
            return filled >= MOST_LETTERS;
        }

        int size() {
            return filled;
        }

        void append(int letter) {
            if (filled >= 0 && filled < MOST_LETTERS) {
                letters[filled] = letter;
                filled++;
            }
        }

        void clear() {
            filled = 0;
        }

        /** How many clauses the last search for a fault has read. */
        int clauses() {
            return read;
        }

        int word(int clause, int i) {
            if (clause < 0 || clause >= MOST_CLAUSES || i < 0 || i >= WORDS) {
                return 0;
            }
            return words[WORDS * clause + i];
        }

        private void putWord(int clause, int i, int value) {
            if (clause >= 0 && clause < MOST_CLAUSES && i >= 0 && i < WORDS) {
                words[WORDS * clause + i] = value;
            }
        }

        /** Reads the clauses: where the fault is; NONE. */
        int findFault() {
            read = 0;
            behind = 0;
            nextToken();
            for (int clause = 0; clause < MOST_CLAUSES; clause++) {
                if (!readClause(clause)) {
                    return begin;
                }
                read = clause + 1;
                if (kind == END) {
                    return NONE;
                }
                if (!isSign(';') || read == MOST_CLAUSES) {
                    return begin;
                }
                nextToken();
            }
            return begin;
        }

        /** False: the token that is looked at then can't stand there. */
        private boolean readClause(int clause) {
            putWord(clause, SLOT, 0);
            if (isName("all")) {
                putWord(clause, KIND, ALL);
                nextToken();
                return true;
            }
            if (isName("put")) {
                putWord(clause, KIND, PUT);
                nextToken();
                return readNumber(clause, SLOT, SLOTS - 1) && readParts(clause);
            }
            if (isName("unit")) {
                putWord(clause, KIND, UNIT);
                nextToken();
                return readNumber(clause, SLOT, SLOTS - 1) && readNumber(clause, FIRST, UNITS - 1);
            }
            if (isName("copy")) {
                putWord(clause, KIND, COPY);
                nextToken();
                return readNumber(clause, SLOT, SLOTS - 1) && readNumber(clause, FIRST, SLOTS - 1);
            }
            return false;
        }

        private boolean readNumber(int clause, int i, int most) {
            int value = tokenNumber(most);
            if (value < 0) {
                return false;
            }
            putWord(clause, i, value);
            nextToken();
            return true;
        }

        private boolean readParts(int clause) {
            int first = 0;
            int squareSum = 0;
            for (int i = 0; i < 4; i++) {
                boolean isBelow = isSign('-');
                if (isBelow) {
                    nextToken();
                }
                int value = tokenNumber(MOST_PART);
                if (value < 0) {
                    return false;
                }
                first = i == 0 ? value : first;
                squareSum += value * value;
                if (((value ^ first) & 1) != 0 || (i == 3 && squareSum > 4 * MOST_NORM)) {
                    return false;
                }
                putWord(clause, FIRST + i, isBelow ? -value : value);
                nextToken();
            }
            return true;
        }

        /** The token's number, if it is one of one or two digits up to a bound; NONE. */
        private int tokenNumber(int most) {
            int digits = behind - begin;
            if (kind != DIGITS || digits < 1 || digits > 2) {
                return NONE;
            }
            int value = letterAt(begin) - '0';
            if (digits == 2) {
                value = 10 * value + letterAt(begin + 1) - '0';
            }
            return value <= most ? value : NONE;
        }

        private boolean isSign(char sign) {
            return kind == SIGN && letterAt(begin) == sign;
        }

        private boolean isName(String name) {
            if (kind != NAME || behind - begin != name.length()) {
                return false;
            }
            for (int i = 0; i < name.length(); i++) {
                if (letterAt(begin + i) != name.charAt(i)) {
                    return false;
                }
            }
            return true;
        }

        private void nextToken() {
            begin = behind;
            for (int i = 0; i < MOST_LETTERS && letterAt(begin) == ' '; i++) {
                begin++;
            }
            behind = begin;
            kind = kindAt(begin);
            if (kind == END) {
                return;
            }
            behind++;
            if (kind == SIGN) {
                return;
            }
            for (int i = 0; i < MOST_LETTERS && kindAt(behind) == kind; i++) {
                behind++;
            }
        }

        private int letterAt(int i) {
            return i >= 0 && i < filled && i < MOST_LETTERS ? letters[i] : NONE;
        }

        /** The kind of token to which the letter at a place belongs. */
        private int kindAt(int i) {
            int letter = letterAt(i);
            if (letter == NONE) {
                return END;
            }
            if (letter >= 'a' && letter <= 'z') {
                return NAME;
            }
            return letter >= '0' && letter <= '9' ? DIGITS : SIGN;
        }
    }
}
