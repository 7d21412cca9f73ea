import java.util.ArrayList;
import java.util.List;

/** What is found of quaternions, over wide ranges, against the model's search in lists. */
public final class ArithmeticTest {
    private static final Check CHECK = new Check("ArithmeticTest");
    private static final QuaternionDesk DESK = new QuaternionDesk();

    public static void main(String[] args) {
        allLists();
        allSquares();
        List<int[]> some = someQuaternions();
        for (int[] q : some) {
            ofOne(q);
        }
        allHeadsOfSmallNorm();
        for (int i = 0; i < some.size(); i += 3) {
            ofTwo(some.get(i), some.get((i * 7 + 11) % some.size()));
        }
        // small divisors leave the most ways open to be equally near
        for (int i = 0; i < some.size(); i += 11) {
            for (int n = 1; n <= 4; n++) {
                List<int[]> divisors = Model.ofNorm(n);
                ofTwo(some.get(i), divisors.get(i % divisors.size()));
            }
        }
        CHECK.finish();
    }

    private static String told(int[] q) {
        return "(" + q[0] + ", " + q[1] + ", " + q[2] + ", " + q[3] + ")";
    }

    private static void put(int slot, int[] q) {
        CHECK.due("set " + told(q), DESK.set(slot, q[0], q[1], q[2], q[3]), Model.norm(q));
    }

    private static void allLists() {
        for (int n = 1; n <= 150; n++) {
            for (int side = 0; side <= 1; side++) {
                List<int[]> heads = Model.heads(n, side);
                CHECK.due("list " + n + " " + side, DESK.list(n, side, -1, 99), heads.size());
                for (int k = 0; k < heads.size(); k++) {
                    for (int i = 0; i < 4; i++) {
                        CHECK.due("list " + n + " " + side + " " + k + " " + i,
                                DESK.list(n, side, k, i), heads.get(k)[i]);
                    }
                }
                CHECK.due("list " + n + " behind", DESK.list(n, side, heads.size(), 0), Model.NOT);
            }
        }
    }

    private static void allSquares() {
        for (int n = 0; n <= 150; n++) {
            CHECK.due("squares " + n, DESK.squares(n, -2, 99), Model.squareRows(n));
            List<int[]> bases = Model.bases(n);
            CHECK.due("bases " + n, DESK.squares(n, -1, 99), bases.size());
            for (int k = 0; k < bases.size(); k++) {
                for (int i = 0; i < 4; i++) {
                    CHECK.due("base " + n + " " + k + " " + i, DESK.squares(n, k, i), bases.get(k)[i]);
                }
            }
            CHECK.due("squares " + n + " behind", DESK.squares(n, bases.size(), 0), Model.NOT);
        }
    }

    /** One out of many of all of them, and all that are more than once a quaternion. */
    private static List<int[]> someQuaternions() {
        List<int[]> some = new ArrayList<>();
        for (int n = 1; n <= 150; n++) {
            List<int[]> all = Model.ofNorm(n);
            for (int i = n % 7; i < all.size(); i += 1 + all.size() / 9) {
                some.add(all.get(i));
            }
        }
        for (int times = 2; times <= 12; times++) {
            for (int n = 1; n * times * times <= 150; n++) {
                List<int[]> all = Model.ofNorm(n);
                for (int i = 0; i < all.size(); i += 5) {
                    some.add(Model.scaled(all.get(i), times));
                }
            }
        }
        return some;
    }

    private static void ofOne(int[] q) {
        put(0, q);
        List<int[]> factors = Model.factors(q);
        CHECK.due("content " + told(q), DESK.of(0, 3), Model.content(q));
        CHECK.due("factors " + told(q), DESK.of(0, 4), factors.size() - 1);
        CHECK.due("chains " + told(q), DESK.of(0, 5), Model.chains(q));
        for (int i = 0; i < 4; i++) {
            for (int k = 0; k < factors.size(); k++) {
                CHECK.due("factor " + told(q) + " " + k, DESK.factor(0, k, i), factors.get(k)[i]);
            }
            CHECK.due("factor " + told(q) + " behind", DESK.factor(0, factors.size(), i), Model.NOT);
        }
        for (int side = 0; side <= 1; side++) {
            List<int[]> primes = Model.primes(q, side);
            CHECK.due("primes " + told(q), DESK.prime(0, side, -1, 99), primes.size());
            for (int k = 0; k < primes.size(); k++) {
                for (int i = 0; i < 4; i++) {
                    CHECK.due("prime " + told(q) + " " + k, DESK.prime(0, side, k, i), primes.get(k)[i]);
                }
            }
            CHECK.due("prime " + told(q) + " behind", DESK.prime(0, side, primes.size(), 0), Model.NOT);
        }
    }

    private static void allHeadsOfSmallNorm() {
        for (int n = 0; n <= 40; n++) {
            for (int[] q : Model.ofNorm(n)) {
                for (int side = 0; side <= 1; side++) {
                    put(0, q);
                    DESK.turn(0, 1 + side);
                    int[] head = Model.head(q, side);
                    for (int i = 0; i < 4; i++) {
                        CHECK.due("head " + told(q) + " " + side, DESK.number(0, i), head[i]);
                    }
                }
            }
        }
    }

    private static void ofTwo(int[] q, int[] d) {
        put(0, q);
        put(1, d);
        for (int side = 0; side <= 1; side++) {
            String told = told(q) + " by " + told(d) + " on " + side;
            int[][] nearest = Model.nearest(q, d, side);
            for (int i = 0; i < 8; i++) {
                CHECK.due("nearest " + told, DESK.nearest(0, 1, side, i), nearest[i / 4][i % 4]);
            }
            CHECK.due("rest of " + told, DESK.nearest(0, 1, side, 8), Model.norm(nearest[1]));
            CHECK.due("steps of " + told, DESK.steps(0, 1, side), Model.steps(q, d, side));
            CHECK.due("divides " + told, DESK.divides(1, 0, side), Model.quotient(d, q, side) != null ? 1 : 0);
            int[] common = Model.common(q, d, side);
            CHECK.due("common of " + told, DESK.common(0, 1, side), Model.norm(common));
            for (int i = 0; i < 4; i++) {
                CHECK.due("common of " + told, DESK.number(0, i), common[i]);
            }
            DESK.undo();
        }
    }
}
