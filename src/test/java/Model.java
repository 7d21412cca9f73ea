import java.util.ArrayList;
import java.util.Arrays;
import java.util.Comparator;
import java.util.HashMap;
import java.util.List;
import java.util.Map;
import java.util.TreeSet;

/**
 * The document told once more, as literally and as slowly as possible: everything is found by
 * search in lists of all quaternions. It shares no code with the class under test.
 */
final class Model {
    static final int NONE = -1, UNKNOWN = -1001, OUTSIDE = -1002, NOT = -1003, FULL = -1004,
            NULL = -1011, INDEX = -1012, SIZE = -1013, ZERO = -1014, OVER = -1015;
    static final Comparator<int[]> GREATEST_FIRST = (p, q) -> Arrays.compare(q, p);

    /** All quaternions of each norm, from the greatest. */
    private static final int MOST = 180;
    private static final List<List<int[]>> ALL = allUpTo(MOST);
    private static final Map<Integer, List<int[]>> HEADS = new HashMap<>();

    private int[][] slots = new int[6][4];
    private final int[][][] kept = new int[2][][];
    private final List<int[][]> past = new ArrayList<>();
    private final StringBuilder text = new StringBuilder();
    private final int[][] tallies = new int[3][];
    private int latest = 0;

    // ---- quaternions

    private static List<List<int[]>> allUpTo(int most) {
        List<List<int[]>> all = new ArrayList<>();
        for (int n = 0; n <= most; n++) {
            all.add(new ArrayList<>());
        }
        int reach = 0;
        while (reach * reach <= 4 * most) {
            reach++;
        }
        for (int a = reach; a >= -reach; a--) {
            for (int b = reach; b >= -reach; b--) {
                for (int c = reach; c >= -reach; c--) {
                    for (int d = reach; d >= -reach; d--) {
                        int[] q = {a, b, c, d};
                        int four = a * a + b * b + c * c + d * d;
                        if (isQuaternion(q) && four <= 4 * most) {
                            all.get(four / 4).add(q);
                        }
                    }
                }
            }
        }
        return all;
    }

    static boolean isQuaternion(int[] q) {
        int odd = 0;
        for (int part : q) {
            odd += Math.floorMod(part, 2);
        }
        return odd == 0 || odd == 4;
    }

    static List<int[]> ofNorm(int n) {
        return ALL.get(n);
    }

    static int norm(int[] q) {
        int sum = 0;
        for (int part : q) {
            sum += part * part;
        }
        return sum / 4;
    }

    static boolean isZero(int[] q) {
        return norm(q) == 0;
    }

    static int[] product(int[] p, int[] q) {
        int a = p[0], b = p[1], c = p[2], d = p[3];
        int e = q[0], f = q[1], g = q[2], h = q[3];
        int[] r = {a * e - b * f - c * g - d * h, a * f + b * e + c * h - d * g,
            a * g - b * h + c * e + d * f, a * h + b * g - c * f + d * e};
        for (int i = 0; i < 4; i++) {
            if (Math.floorMod(r[i], 2) != 0) {
                throw new IllegalStateException("a product that is not whole");
            }
            r[i] /= 2;
        }
        return r;
    }

    static int[] make(int[] d, int[] x, int side) {
        return side == 0 ? product(d, x) : product(x, d);
    }

    static int[] scaled(int[] q, int n) {
        int[] r = new int[4];
        for (int i = 0; i < 4; i++) {
            r[i] = n * q[i];
        }
        return r;
    }

    static int[] sum(int[] p, int[] q) {
        int[] r = new int[4];
        for (int i = 0; i < 4; i++) {
            r[i] = p[i] + q[i];
        }
        return r;
    }

    static int[] conjugate(int[] q) {
        return new int[] {q[0], -q[1], -q[2], -q[3]};
    }

    static int[] head(int[] q, int side) {
        int[] best = q;
        for (int[] unit : ofNorm(1)) {
            int[] mate = make(q, unit, side);
            if (Arrays.compare(mate, best) > 0) {
                best = mate;
            }
        }
        return best;
    }

    /** The x with which d makes q; null: there is none. */
    static int[] quotient(int[] d, int[] q, int side) {
        if (isZero(d)) {
            return isZero(q) ? new int[4] : null;
        }
        if (norm(q) % norm(d) != 0) {
            return null;
        }
        for (int[] x : ofNorm(norm(q) / norm(d))) {
            if (Arrays.equals(make(d, x, side), q)) {
                return x;
            }
        }
        return null;
    }

    /** NEAREST and REST. With x too great, the rest is longer than d: such x are passed over. */
    static int[][] nearest(int[] q, int[] d, int side) {
        double reach = (Math.sqrt(norm(q)) + Math.sqrt(norm(d))) / Math.sqrt(norm(d)) + 0.001;
        int[][] best = null;
        for (int n = 0; n <= MOST && n <= reach * reach; n++) {
            for (int[] x : ofNorm(n)) {
                int[] rest = sum(q, scaled(make(d, x, side), -1));
                if (best == null || norm(rest) < norm(best[1])
                        || (norm(rest) == norm(best[1]) && Arrays.compare(x, best[0]) > 0)) {
                    best = new int[][] {x, rest};
                }
            }
        }
        return best;
    }

    static int steps(int[] q, int[] d, int side) {
        int steps = 0;
        while (!isZero(d)) {
            int[] rest = nearest(q, d, side)[1];
            q = d;
            d = rest;
            steps++;
        }
        return steps;
    }

    static int[] common(int[] q, int[] d, int side) {
        for (int n = 150; n >= 1; n--) {
            if (norm(q) % n != 0 || norm(d) % n != 0) {
                continue;
            }
            for (int[] g : ofNorm(n)) {
                if (quotient(g, q, side) != null && quotient(g, d, side) != null) {
                    return g;
                }
            }
        }
        throw new IllegalStateException("nothing in common");
    }

    static int content(int[] q) {
        int best = 0;
        for (int n = 1; n <= 24; n++) {
            if (norm(q) % (n * n) != 0) {
                continue;
            }
            for (int[] r : ofNorm(norm(q) / n / n)) {
                if (Arrays.equals(scaled(r, n), q)) {
                    best = n;
                }
            }
        }
        return best;
    }

    static boolean isPrime(int n) {
        for (int p = 2; p < n; p++) {
            if (n % p == 0) {
                return false;
            }
        }
        return n > 1;
    }

    static List<int[]> factors(int[] q) {
        List<int[]> factors = new ArrayList<>();
        while (norm(q) > 1) {
            int p = 2;
            while (norm(q) % p != 0) {
                p++;
            }
            int[] next = null;
            for (int[] f : ofNorm(p)) {
                next = quotient(f, q, 0);
                if (next != null) {
                    factors.add(f);
                    break;
                }
            }
            q = next;
        }
        factors.add(q);
        return factors;
    }

    static List<int[]> heads(int n, int side) {
        return HEADS.computeIfAbsent(2 * n + side, key -> {
            TreeSet<int[]> found = new TreeSet<>(GREATEST_FIRST);
            for (int[] q : ofNorm(n)) {
                found.add(head(q, side));
            }
            return new ArrayList<>(found);
        });
    }

    static int chains(int[] q) {
        return chainsTo(head(q, 0));
    }

    private static int chainsTo(int[] last) {
        if (norm(last) == 1) {
            return 1;
        }
        int sum = 0;
        for (int p = 2; p <= norm(last); p++) {
            if (!isPrime(p) || norm(last) % p != 0) {
                continue;
            }
            for (int[] before : heads(norm(last) / p, 0)) {
                if (quotient(before, last, 0) != null) {
                    sum += chainsTo(before);
                }
            }
        }
        return sum;
    }

    static List<int[]> primes(int[] q, int side) {
        List<int[]> primes = new ArrayList<>();
        for (int p = 2; p <= norm(q); p++) {
            if (isPrime(p) && norm(q) % p == 0) {
                for (int[] h : heads(p, side)) {
                    if (quotient(h, q, side) != null) {
                        primes.add(h);
                    }
                }
            }
        }
        return primes;
    }

    static int squareRows(int n) {
        int rows = 0;
        for (int[] q : ofNorm(n)) {
            rows += q[0] % 2 == 0 ? 1 : 0;
        }
        return rows;
    }

    static List<int[]> bases(int n) {
        List<int[]> bases = new ArrayList<>();
        for (int[] q : ofNorm(n)) {
            if (q[0] % 2 == 0 && q[0] >= q[1] && q[1] >= q[2] && q[2] >= q[3] && q[3] >= 0) {
                bases.add(new int[] {q[0] / 2, q[1] / 2, q[2] / 2, q[3] / 2});
            }
        }
        return bases;
    }

    // ---- the calls

    private static boolean among(int i, int many) {
        return 0 <= i && i < many;
    }

    int write(int letter) {
        if (!among(letter, 256)) {
            return OUTSIDE;
        }
        if (text.length() == 200) {
            return FULL;
        }
        text.append((char) letter);
        return text.length();
    }

    int erase() {
        int had = text.length();
        text.setLength(0);
        return had;
    }

    int fault() {
        return new Text(text.toString()).fault;
    }

    int desk() {
        Text read = new Text(text.toString());
        if (read.fault != NONE) {
            return NOT;
        }
        for (List<String> clause : read.clauses) {
            perform(clause);
        }
        text.setLength(0);
        kept[0] = null;
        kept[1] = null;
        past.clear();
        Arrays.fill(tallies, null);
        return read.clauses.size();
    }

    private void perform(List<String> clause) {
        int[] words = new int[clause.size()];
        for (int i = 1; i < words.length; i++) {
            words[i] = Integer.parseInt(clause.get(i));
        }
        switch (clause.get(0)) {
            case "all" -> slots = new int[6][4];
            case "put" -> slots[words[1]] = Arrays.copyOfRange(words, 2, 6);
            case "unit" -> slots[words[1]] = ofNorm(1).get(words[2]);
            default -> slots[words[1]] = slots[words[2]];
        }
    }

    int number(int slot, int i) {
        return !among(slot, 6) ? UNKNOWN : !among(i, 4) ? OUTSIDE : slots[slot][i];
    }

    int of(int slot, int what) {
        if (!among(slot, 6)) {
            return UNKNOWN;
        }
        if (!among(what, 6)) {
            return OUTSIDE;
        }
        int[] q = slots[slot];
        if (what >= 3 && isZero(q)) {
            return NOT;
        }
        return switch (what) {
            case 0 -> norm(q);
            case 1 -> unitNumber(q);
            case 2 -> q[0] % 2 == 0 && q[1] % 2 == 0 && q[2] % 2 == 0 && q[3] % 2 == 0 ? 1 : 0;
            case 3 -> content(q);
            case 4 -> factors(q).size() - 1;
            default -> chains(q);
        };
    }

    private static int unitNumber(int[] q) {
        for (int k = 0; k < 24; k++) {
            if (Arrays.equals(q, ofNorm(1).get(k))) {
                return k;
            }
        }
        return NONE;
    }

    int unit(int unit, int i) {
        return !among(unit, 24) ? UNKNOWN : !among(i, 4) ? OUTSIDE : ofNorm(1).get(unit)[i];
    }

    private int become(int slot, int[] q) {
        past.add(slots.clone());
        if (past.size() > 8) {
            past.remove(0);
        }
        slots = slots.clone();
        slots[slot] = q;
        return norm(q);
    }

    int set(int slot, int a, int b, int c, int d) {
        if (!among(slot, 6)) {
            return UNKNOWN;
        }
        int[] q = {a, b, c, d};
        long four = 0;
        for (int part : q) {
            four += Math.min(Math.abs((long) part), 1000) * Math.min(Math.abs((long) part), 1000);
        }
        return !isQuaternion(q) || four > 600 ? OUTSIDE : become(slot, q);
    }

    int add(int slot, int other) {
        if (!among(slot, 6) || !among(other, 6)) {
            return UNKNOWN;
        }
        int[] q = sum(slots[slot], slots[other]);
        return norm(q) > 150 ? NOT : become(slot, q);
    }

    int times(int slot, int other, int side) {
        if (!among(slot, 6) || !among(other, 6)) {
            return UNKNOWN;
        }
        if (!among(side, 2)) {
            return OUTSIDE;
        }
        int[] q = make(slots[slot], slots[other], side);
        return norm(q) > 150 ? NOT : become(slot, q);
    }

    int turn(int slot, int way) {
        if (!among(slot, 6)) {
            return UNKNOWN;
        }
        int[] q = slots[slot];
        return switch (way) {
            case 0 -> become(slot, conjugate(q));
            case 1 -> become(slot, head(q, 0));
            case 2 -> become(slot, head(q, 1));
            case 3 -> become(slot, scaled(q, -1));
            default -> OUTSIDE;
        };
    }

    int divide(int slot, int other, int way, int side) {
        if (!among(slot, 6) || !among(other, 6)) {
            return UNKNOWN;
        }
        if (!among(way, 2) || !among(side, 2)) {
            return OUTSIDE;
        }
        return isZero(slots[other]) ? NOT
                : become(slot, nearest(slots[slot], slots[other], side)[way]);
    }

    int common(int slot, int other, int side) {
        if (!among(slot, 6) || !among(other, 6)) {
            return UNKNOWN;
        }
        if (!among(side, 2)) {
            return OUTSIDE;
        }
        return isZero(slots[slot]) && isZero(slots[other]) ? NOT
                : become(slot, common(slots[slot], slots[other], side));
    }

    int undo() {
        if (past.isEmpty()) {
            return NOT;
        }
        slots = past.remove(past.size() - 1);
        return past.size();
    }

    private int filled() {
        int filled = 0;
        for (int[] q : slots) {
            filled += isZero(q) ? 0 : 1;
        }
        return filled;
    }

    int keep(int k) {
        if (!among(k, 2)) {
            return OUTSIDE;
        }
        kept[k] = slots.clone();
        return filled();
    }

    int back(int k) {
        if (!among(k, 2)) {
            return OUTSIDE;
        }
        if (kept[k] == null) {
            return NOT;
        }
        slots = kept[k].clone();
        past.clear();
        return filled();
    }

    int divides(int slot, int other, int side) {
        if (!among(slot, 6) || !among(other, 6)) {
            return UNKNOWN;
        }
        if (!among(side, 2)) {
            return OUTSIDE;
        }
        return quotient(slots[slot], slots[other], side) != null ? 1 : 0;
    }

    int nearest(int slot, int other, int side, int i) {
        if (!among(slot, 6) || !among(other, 6)) {
            return UNKNOWN;
        }
        if (!among(side, 2) || !among(i, 9)) {
            return OUTSIDE;
        }
        if (isZero(slots[other])) {
            return NOT;
        }
        int[][] found = nearest(slots[slot], slots[other], side);
        return i == 8 ? norm(found[1]) : found[i / 4][i % 4];
    }

    int steps(int slot, int other, int side) {
        if (!among(slot, 6) || !among(other, 6)) {
            return UNKNOWN;
        }
        return !among(side, 2) ? OUTSIDE : steps(slots[slot], slots[other], side);
    }

    int mate(int slot, int side, int k, int i) {
        if (!among(slot, 6)) {
            return UNKNOWN;
        }
        if (!among(side, 2) || !among(k, 24) || !among(i, 4)) {
            return OUTSIDE;
        }
        return make(slots[slot], ofNorm(1).get(k), side)[i];
    }

    int factor(int slot, int k, int i) {
        if (!among(slot, 6)) {
            return UNKNOWN;
        }
        if (!among(i, 4) || k < 0) {
            return OUTSIDE;
        }
        return isZero(slots[slot]) ? NOT : from(factors(slots[slot]), k, i);
    }

    private static int from(List<int[]> rows, int k, int i) {
        return k < rows.size() ? rows.get(k)[i] : NOT;
    }

    int prime(int slot, int side, int k, int i) {
        if (!among(slot, 6)) {
            return UNKNOWN;
        }
        if (!among(side, 2) || k < -1 || (k >= 0 && !among(i, 4))) {
            return OUTSIDE;
        }
        if (isZero(slots[slot])) {
            return NOT;
        }
        List<int[]> primes = primes(slots[slot], side);
        return k == -1 ? primes.size() : from(primes, k, i);
    }

    int list(int n, int side, int k, int i) {
        if (n < 1 || n > 150 || !among(side, 2) || k < -1 || (k >= 0 && !among(i, 4))) {
            return OUTSIDE;
        }
        return k == -1 ? heads(n, side).size() : from(heads(n, side), k, i);
    }

    int squares(int n, int k, int i) {
        if (!among(n, 151) || k < -2 || (k >= 0 && !among(i, 4))) {
            return OUTSIDE;
        }
        return k == -2 ? squareRows(n) : k == -1 ? bases(n).size() : from(bases(n), k, i);
    }

    int turned(int slot, int axis, int i) {
        if (!among(slot, 6)) {
            return UNKNOWN;
        }
        if (!among(axis, 3) || !among(i, 3)) {
            return OUTSIDE;
        }
        int[] along = new int[4];
        along[axis + 1] = 2;
        int[] q = slots[slot];
        return product(product(q, along), conjugate(q))[i + 1];
    }

    int rank(int k) {
        if (!among(k, 6)) {
            return OUTSIDE;
        }
        List<Integer> order = new ArrayList<>(List.of(0, 1, 2, 3, 4, 5));
        // sorting is stable: like ones stay in the order of their slots
        order.sort((s, t) -> norm(slots[s]) != norm(slots[t])
                ? Integer.compare(norm(slots[s]), norm(slots[t]))
                : GREATEST_FIRST.compare(slots[s], slots[t]));
        return order.get(k);
    }

    int tally(int tally, int n) {
        if (!among(tally, 3)) {
            return UNKNOWN;
        }
        if (n > 6) {
            return OUTSIDE;
        }
        if (n < 0) {
            return SIZE;
        }
        tallies[tally] = new int[n];
        return n;
    }

    int load(int tally, int i, int slot) {
        if (!among(tally, 3) || !among(slot, 6)) {
            return UNKNOWN;
        }
        if (tallies[tally] == null) {
            return NULL;
        }
        if (!among(i, tallies[tally].length)) {
            return INDEX;
        }
        tallies[tally][i] = norm(slots[slot]);
        return tallies[tally][i];
    }

    int work(int tally, int way, int i, int j) {
        if (!among(tally, 3)) {
            return UNKNOWN;
        }
        if (!among(way, 6)) {
            return OUTSIDE;
        }
        int[] row = tallies[tally];
        if (row == null) {
            return NULL;
        }
        if (!among(i, row.length) || !among(j, row.length)) {
            return INDEX;
        }
        java.math.BigInteger x = java.math.BigInteger.valueOf(row[i]);
        java.math.BigInteger y = java.math.BigInteger.valueOf(row[j]);
        if ((way == 3 || way == 4) && y.signum() == 0) {
            return ZERO;
        }
        java.math.BigInteger made = switch (way) {
            case 0 -> x.add(y);
            case 1 -> x.subtract(y);
            case 2 -> x.multiply(y);
            case 3 -> x.divide(y);
            case 4 -> x.remainder(y);
            default -> y;
        };
        if (made.bitLength() > 31) {
            return OVER;
        }
        latest = made.intValue();
        row[i] = latest;
        return 0;
    }

    int latest() {
        return latest;
    }

    int drop(int tally) {
        if (!among(tally, 3)) {
            return UNKNOWN;
        }
        if (tallies[tally] == null) {
            return NULL;
        }
        int had = tallies[tally].length;
        tallies[tally] = null;
        return had;
    }

    int count(int what) {
        int sum = 0;
        switch (what) {
            case 0:
                return filled();
            case 1:
                for (int[] q : slots) {
                    sum += norm(q);
                }
                return sum;
            case 2:
                return past.size();
            case 3:
                return text.length();
            case 4:
                for (int[] tally : tallies) {
                    sum += tally == null ? 0 : tally.length;
                }
                return sum;
            case 5:
                return kept[0] == null ? 0 : 1;
            case 6:
                return kept[1] == null ? 0 : 1;
            default:
                return OUTSIDE;
        }
    }

    // ---- the text

    /** A text cut into tokens by a pattern, then read clause by clause. */
    private static final class Text {
        final List<List<String>> clauses = new ArrayList<>();
        int fault = NONE;
        private final List<String> tokens = new ArrayList<>();
        private final List<Integer> places = new ArrayList<>();
        private int at = 0;

        Text(String text) {
            var matcher = java.util.regex.Pattern.compile("[a-z]+|[0-9]+|[^ ]", java.util.regex.Pattern.DOTALL)
                    .matcher(text);
            while (matcher.find()) {
                tokens.add(matcher.group());
                places.add(matcher.start());
            }
            tokens.add("");
            places.add(text.length());
            fault = read() ? NONE : places.get(at);
        }

        private boolean read() {
            while (true) {
                List<String> clause = new ArrayList<>();
                if (!clause(clause)) {
                    return false;
                }
                clauses.add(clause);
                if (tokens.get(at).isEmpty()) {
                    return true;
                }
                if (!tokens.get(at).equals(";") || clauses.size() == 24) {
                    return false;
                }
                at++;
            }
        }

        private boolean clause(List<String> clause) {
            String kind = tokens.get(at);
            if (!List.of("all", "put", "unit", "copy").contains(kind)) {
                return false;
            }
            at++;
            clause.add(kind);
            return switch (kind) {
                case "all" -> true;
                case "put" -> number(clause, 5) && parts(clause);
                case "unit" -> number(clause, 5) && number(clause, 23);
                default -> number(clause, 5) && number(clause, 5);
            };
        }

        private boolean isNumber(int most) {
            return tokens.get(at).matches("[0-9]{1,2}") && Integer.parseInt(tokens.get(at)) <= most;
        }

        private boolean number(List<String> clause, int most) {
            if (!isNumber(most)) {
                return false;
            }
            clause.add(tokens.get(at++));
            return true;
        }

        private boolean parts(List<String> clause) {
            int four = 0;
            int odd = 0;
            for (int i = 0; i < 4; i++) {
                String sign = "";
                if (tokens.get(at).equals("-")) {
                    sign = "-";
                    at++;
                }
                if (!isNumber(24)) {
                    return false;
                }
                int value = Integer.parseInt(tokens.get(at));
                if (i == 0) {
                    odd = value % 2;
                }
                four += value * value;
                if (value % 2 != odd || (i == 3 && four > 600)) {
                    return false;
                }
                clause.add(sign + tokens.get(at++));
            }
            return true;
        }
    }
}
