import java.util.Random;

/** Long runs of calls, made from fixed seeds, on the class and on the model side by side. */
public final class ModelRunTest {
    private static final int RUNS = 400, CALLS = 512;
    private static final int MOST_LETTERS = 205, TEXT_CALLS = MOST_LETTERS + 4, CHANGE_CALLS = 25, COUNT_CALLS = 2;
    private static final Check CHECK = new Check("ModelRunTest");
    private static final String[] PIECES = {"all", "put", "unit", "copy", ";", ";", "-", " ", "  ",
        "0", "1", "2", "3", "5", "6", "9", "12", "23", "24", "25", "05", "005", "al", "putt", "A", "\t", "."};

    private final Random random;
    private final QuaternionDesk desk = new QuaternionDesk();
    private final Model model = new Model();
    private final String run;
    private int left = CALLS;

    private ModelRunTest(int seed) {
        random = new Random(seed);
        run = "run " + seed + ": ";
    }

    public static void main(String[] args) {
        for (int seed = 0; seed < RUNS && CHECK.wrong() == 0; seed++) {
            ModelRunTest test = new ModelRunTest(seed);
            while (test.left > 0) {
                test.step();
            }
            CHECK.due(test.run + "calls that are left", test.left, 0);
        }
        CHECK.finish();
    }

    private void due(String call, int got, int want) {
        left--;
        CHECK.due(run + call, got, want);
    }

    /** Mostly a number from 0 on below many, now and then one beside that. */
    private int near(int many) {
        int luck = random.nextInt(40);
        if (luck == 0) {
            return -1;
        }
        if (luck == 1) {
            return many;
        }
        if (luck == 2) {
            return new int[] {Integer.MIN_VALUE, Integer.MAX_VALUE, 1000, -1000, -2, -3}[random.nextInt(6)];
        }
        return random.nextInt(many);
    }

    /** One step, for which there are calls enough left. */
    private void step() {
        int kind = random.nextInt(100);
        if (kind < 6 && left >= TEXT_CALLS) {
            writeText();
        } else if (kind < 45 && left >= CHANGE_CALLS) {
            change();
        } else if (kind < 80 || left < COUNT_CALLS) {
            find();
        } else {
            count();
        }
    }

    private void change() {
        int s = near(6);
        int t = near(6);
        int side = near(2);
        switch (random.nextInt(12)) {
            case 0, 1, 2, 3 -> setSome(s);
            case 4 -> due("add " + s + " " + t, desk.add(s, t), model.add(s, t));
            case 5 -> due("times " + s + " " + t + " " + side, desk.times(s, t, side), model.times(s, t, side));
            case 6 -> {
                int way = near(4);
                due("turn " + s + " " + way, desk.turn(s, way), model.turn(s, way));
            }
            case 7 -> {
                int way = near(2);
                due("divide " + s + " " + t + " " + way + " " + side,
                        desk.divide(s, t, way, side), model.divide(s, t, way, side));
            }
            case 8 -> due("common " + s + " " + t + " " + side, desk.common(s, t, side), model.common(s, t, side));
            case 9 -> due("undo", desk.undo(), model.undo());
            case 10 -> due("keep " + side, desk.keep(side), model.keep(side));
            default -> due("back " + side, desk.back(side), model.back(side));
        }
        if (random.nextInt(3) == 0) {
            compareSlots();
        }
    }

    private void setSome(int s) {
        int reach = new int[] {2, 5, 9, 14, 26}[random.nextInt(5)];
        int[] q = new int[4];
        int odd = random.nextInt(2);
        for (int i = 0; i < 4; i++) {
            q[i] = random.nextInt(2 * reach + 1) - reach;
            if (Math.floorMod(q[i], 2) != odd && random.nextInt(60) != 0) {
                q[i]++;
            }
        }
        if (random.nextInt(50) == 0) {
            q[random.nextInt(4)] = new int[] {Integer.MIN_VALUE, Integer.MAX_VALUE, 65536, -65536}[random.nextInt(4)];
        }
        due("set " + s + " " + q[0] + " " + q[1] + " " + q[2] + " " + q[3],
                desk.set(s, q[0], q[1], q[2], q[3]), model.set(s, q[0], q[1], q[2], q[3]));
    }

    private void compareSlots() {
        for (int s = 0; s < 6; s++) {
            for (int i = 0; i < 4; i++) {
                due("number " + s + " " + i, desk.number(s, i), model.number(s, i));
            }
        }
    }

    private void find() {
        int s = near(6);
        int t = near(6);
        int side = near(2);
        int i = near(4);
        switch (random.nextInt(14)) {
            case 0 -> due("number " + s + " " + i, desk.number(s, i), model.number(s, i));
            case 1, 2 -> {
                int what = near(6);
                due("of " + s + " " + what, desk.of(s, what), model.of(s, what));
            }
            case 3 -> {
                int unit = near(24);
                due("unit " + unit + " " + i, desk.unit(unit, i), model.unit(unit, i));
            }
            case 4 -> due("divides " + s + " " + t + " " + side, desk.divides(s, t, side), model.divides(s, t, side));
            case 5, 6 -> {
                int part = near(9);
                due("nearest " + s + " " + t + " " + side + " " + part,
                        desk.nearest(s, t, side, part), model.nearest(s, t, side, part));
            }
            case 7 -> due("steps " + s + " " + t + " " + side, desk.steps(s, t, side), model.steps(s, t, side));
            case 8 -> {
                int k = near(24);
                due("mate " + s + " " + side + " " + k + " " + i,
                        desk.mate(s, side, k, i), model.mate(s, side, k, i));
            }
            case 9 -> {
                int k = near(6);
                due("factor " + s + " " + k + " " + i, desk.factor(s, k, i), model.factor(s, k, i));
            }
            case 10 -> {
                int k = near(6) - 1;
                due("prime " + s + " " + side + " " + k + " " + i,
                        desk.prime(s, side, k, i), model.prime(s, side, k, i));
            }
            case 11 -> {
                int n = near(151);
                int k = near(new int[] {1, 10, 100, 250}[random.nextInt(4)]) - 1;
                due("list " + n + " " + side + " " + k + " " + i,
                        desk.list(n, side, k, i), model.list(n, side, k, i));
            }
            case 12 -> {
                int n = near(151);
                int k = near(10) - 2;
                due("squares " + n + " " + k + " " + i, desk.squares(n, k, i), model.squares(n, k, i));
            }
            default -> {
                int axis = near(3);
                int part = near(3);
                due("turned " + s + " " + axis + " " + part, desk.turned(s, axis, part), model.turned(s, axis, part));
            }
        }
    }

    private void count() {
        int tally = near(3);
        int i = near(4);
        int j = near(4);
        switch (random.nextInt(12)) {
            case 0 -> {
                int n = near(7);
                due("tally " + tally + " " + n, desk.tally(tally, n), model.tally(tally, n));
            }
            case 1, 2, 3 -> {
                int s = near(6);
                due("load " + tally + " " + i + " " + s, desk.load(tally, i, s), model.load(tally, i, s));
            }
            case 4, 5, 6, 7, 8 -> {
                int way = near(6);
                due("work " + tally + " " + way + " " + i + " " + j,
                        desk.work(tally, way, i, j), model.work(tally, way, i, j));
                due("latest", desk.latest(), model.latest());
            }
            case 9 -> {
                if (random.nextInt(4) == 0) {
                    due("drop " + tally, desk.drop(tally), model.drop(tally));
                }
            }
            case 10 -> {
                int k = near(6);
                due("rank " + k, desk.rank(k), model.rank(k));
            }
            default -> {
                int what = near(7);
                due("count " + what, desk.count(what), model.count(what));
            }
        }
    }

    private void writeText() {
        String text = random.nextInt(3) == 0 ? pieces() : clauses();
        for (int k = 0; k < Math.min(text.length(), MOST_LETTERS); k++) {
            int letter = text.charAt(k);
            due("write " + letter, desk.write(letter), model.write(letter));
        }
        due("fault of '" + text + "'", desk.fault(), model.fault());
        if (random.nextInt(3) != 0) {
            due("desk of '" + text + "'", desk.desk(), model.desk());
        }
        int what = near(7);
        due("count " + what, desk.count(what), model.count(what));
        if (random.nextInt(2) == 0) {
            due("erase", desk.erase(), model.erase());
        }
    }

    private String pieces() {
        StringBuilder text = new StringBuilder();
        int many = random.nextInt(12);
        for (int k = 0; k < many; k++) {
            text.append(PIECES[random.nextInt(PIECES.length)]);
        }
        return text.toString();
    }

    /** Clauses as they should be; in one of four texts a letter is put, changed or taken away. */
    private String clauses() {
        StringBuilder text = new StringBuilder();
        int many = 1 + random.nextInt(random.nextInt(10) == 0 ? 30 : 4);
        for (int k = 0; k < many; k++) {
            text.append(k > 0 ? ";" : "").append(blanks(0)).append(clause()).append(blanks(0));
        }
        if (random.nextInt(4) == 0 && text.length() > 0) {
            int at = random.nextInt(text.length());
            switch (random.nextInt(3)) {
                case 0 -> text.deleteCharAt(at);
                case 1 -> text.setCharAt(at, (char) random.nextInt(256));
                default -> text.insert(at, PIECES[random.nextInt(PIECES.length)]);
            }
        }
        return text.toString();
    }

    private String clause() {
        switch (random.nextInt(8)) {
            case 0, 1:
                return "all";
            case 2:
                return "unit" + blanks(0) + random.nextInt(6) + blanks(1) + random.nextInt(24);
            case 3:
                return "copy" + blanks(0) + random.nextInt(6) + blanks(1) + random.nextInt(6);
            default:
                StringBuilder put = new StringBuilder("put" + blanks(0) + "0".repeat(random.nextInt(2)));
                put.append(random.nextInt(6));
                int odd = random.nextInt(2);
                int reach = random.nextInt(10) == 0 ? 12 : 6;
                for (int i = 0; i < 4; i++) {
                    boolean below = random.nextInt(2) == 0;
                    put.append(below ? blanks(0) + "-" + blanks(0) : blanks(1));
                    put.append(2 * random.nextInt(reach) + odd);
                }
                return put.toString();
        }
    }

    private String blanks(int least) {
        return " ".repeat(least + (random.nextInt(5) == 0 ? 1 : 0));
    }
}
