import java.util.ArrayList;
import java.util.List;

/** What is found of quaternions, over wide ranges, against the model's search in lists. */
public final class ArithmeticTest {
    private static final Check CHECK = new Check("ArithmeticTest");
    /** One object is used for at most 512 calls: some are kept free for the calls of one step. */
    private static final int MOST_CALLS = 512, FREE = 160;
    private static QuaternionDesk desk = new QuaternionDesk();
    private static int calls = 0;
    private static int mostCalls = 0;

    public static void main(String[] args) {
        allLists();
        allSquares();
        List<int[]> some = someQuaternions();
        for (int[] q : some) {
            ofOne(q);
        }
        allHeadsOfSmallNorm();
        for (int i = 0; i < some.size(); i += 3) {
            ofTwo(some.get(i), some.get((i * 7 + 11) % some.size()));
        }
        // small divisors leave the most ways open to be equally near
        for (int i = 0; i < some.size(); i += 11) {
            for (int n = 1; n <= 4; n++) {
                List<int[]> divisors = Model.ofNorm(n);
                ofTwo(some.get(i), divisors.get(i % divisors.size()));
            }
        }
        CHECK.isTrue("no object was used for too many calls", mostCalls <= MOST_CALLS);
        CHECK.finish();
    }

    private static String told(int[] q) {
        return "(" + q[0] + ", " + q[1] + ", " + q[2] + ", " + q[3] + ")";
    }

    /** The desk, for one call more. */
    private static QuaternionDesk desk() {
        calls++;
        mostCalls = Math.max(mostCalls, calls);
        return desk;
    }

    /** A new desk, if the calls of one step more might be too many for this one. */
    private static void nextStep() {
        if (calls > MOST_CALLS - FREE) {
            desk = new QuaternionDesk();
            calls = 0;
        }
    }

    private static void put(int slot, int[] q) {
        CHECK.due("set " + told(q), desk().set(slot, q[0], q[1], q[2], q[3]), Model.norm(q));
    }

    private static void allLists() {
        for (int n = 1; n <= 150; n++) {
            for (int side = 0; side <= 1; side++) {
                List<int[]> heads = Model.heads(n, side);
                CHECK.due("list " + n + " " + side, desk().list(n, side, -1, 99), heads.size());
                for (int k = 0; k < heads.size(); k++) {
                    nextStep();
                    for (int i = 0; i < 4; i++) {
                        CHECK.due("list " + n + " " + side + " " + k + " " + i,
                                desk().list(n, side, k, i), heads.get(k)[i]);
                    }
                }
                CHECK.due("list " + n + " behind", desk().list(n, side, heads.size(), 0), Model.NOT);
            }
        }
    }

    private static void allSquares() {
        for (int n = 0; n <= 150; n++) {
            CHECK.due("squares " + n, desk().squares(n, -2, 99), Model.squareRows(n));
            List<int[]> bases = Model.bases(n);
            nextStep();
            CHECK.due("bases " + n, desk().squares(n, -1, 99), bases.size());
            for (int k = 0; k < bases.size(); k++) {
                for (int i = 0; i < 4; i++) {
                    CHECK.due("base " + n + " " + k + " " + i, desk().squares(n, k, i), bases.get(k)[i]);
                }
            }
            CHECK.due("squares " + n + " behind", desk().squares(n, bases.size(), 0), Model.NOT);
        }
    }

    /** One out of many of all of them, and all that are more than once a quaternion. */
    private static List<int[]> someQuaternions() {
        List<int[]> some = new ArrayList<>();
        for (int n = 1; n <= 150; n++) {
            List<int[]> all = Model.ofNorm(n);
            for (int i = n % 7; i < all.size(); i += 1 + all.size() / 9) {
                some.add(all.get(i));
            }
        }
        for (int times = 2; times <= 12; times++) {
            for (int n = 1; n * times * times <= 150; n++) {
                List<int[]> all = Model.ofNorm(n);
                for (int i = 0; i < all.size(); i += 5) {
                    some.add(Model.scaled(all.get(i), times));
                }
            }
        }
        return some;
    }

    private static void ofOne(int[] q) {
        nextStep();
        put(0, q);
        List<int[]> factors = Model.factors(q);
        CHECK.due("content " + told(q), desk().of(0, 3), Model.content(q));
        CHECK.due("factors " + told(q), desk().of(0, 4), factors.size() - 1);
        CHECK.due("chains " + told(q), desk().of(0, 5), Model.chains(q));
        for (int i = 0; i < 4; i++) {
            for (int k = 0; k < factors.size(); k++) {
                CHECK.due("factor " + told(q) + " " + k, desk().factor(0, k, i), factors.get(k)[i]);
            }
            CHECK.due("factor " + told(q) + " behind", desk().factor(0, factors.size(), i), Model.NOT);
        }
        for (int side = 0; side <= 1; side++) {
            List<int[]> primes = Model.primes(q, side);
            CHECK.due("primes " + told(q), desk().prime(0, side, -1, 99), primes.size());
            for (int k = 0; k < primes.size(); k++) {
                for (int i = 0; i < 4; i++) {
                    CHECK.due("prime " + told(q) + " " + k, desk().prime(0, side, k, i), primes.get(k)[i]);
                }
            }
            CHECK.due("prime " + told(q) + " behind", desk().prime(0, side, primes.size(), 0), Model.NOT);
        }
    }

    private static void allHeadsOfSmallNorm() {
        for (int n = 0; n <= 40; n++) {
            for (int[] q : Model.ofNorm(n)) {
                for (int side = 0; side <= 1; side++) {
                    nextStep();
                    put(0, q);
                    desk().turn(0, 1 + side);
                    int[] head = Model.head(q, side);
                    for (int i = 0; i < 4; i++) {
                        CHECK.due("head " + told(q) + " " + side, desk().number(0, i), head[i]);
                    }
                }
            }
        }
    }

    private static void ofTwo(int[] q, int[] d) {
        nextStep();
        put(0, q);
        put(1, d);
        for (int side = 0; side <= 1; side++) {
            String told = told(q) + " by " + told(d) + " on " + side;
            int[][] nearest = Model.nearest(q, d, side);
            for (int i = 0; i < 8; i++) {
                CHECK.due("nearest " + told, desk().nearest(0, 1, side, i), nearest[i / 4][i % 4]);
            }
            CHECK.due("rest of " + told, desk().nearest(0, 1, side, 8), Model.norm(nearest[1]));
            CHECK.due("steps of " + told, desk().steps(0, 1, side), Model.steps(q, d, side));
            CHECK.due("divides " + told, desk().divides(1, 0, side), Model.quotient(d, q, side) != null ? 1 : 0);
            int[] common = Model.common(q, d, side);
            CHECK.due("common of " + told, desk().common(0, 1, side), Model.norm(common));
            for (int i = 0; i < 4; i++) {
                CHECK.due("common of " + told, desk().number(0, i), common[i]);
            }
            desk().undo();
        }
    }
}
