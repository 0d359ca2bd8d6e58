import java.util.Map;
import java.util.Random;
import java.util.TreeMap;

/** Random runs of calls, each answer and the whole visible state compared with the plain model. */
public final class ModelTest {
    private static final int[] ODD = {Integer.MIN_VALUE, -1, 3, 4, 5, 10, 11, 12, Integer.MAX_VALUE};
    private static final Map<Integer, Integer> answersOfRun = new TreeMap<>();

    private final Random random;
    private final Check check;
    private final LeastChanges real;
    private final PlainModel model;
    private final int most;

    private ModelTest(long seed, Check check) {
        this.random = new Random(seed);
        this.check = check;
        int tanks = random.nextInt(12) == 0 ? odd() : 1 + random.nextInt(3);
        int days = random.nextInt(12) == 0 ? odd() : 1 + random.nextInt(10);
        this.real = new LeastChanges(tanks, days);
        this.model = new PlainModel(tanks, days);
        this.most = 1 + random.nextInt(model.days);
    }

    public static void main(String[] args) {
        Check check = new Check("ModelTest");
        for (long seed = 1; seed <= 2500 && check.wrong() < 20; seed++) {
            check.part("seed " + seed);
            new ModelTest(seed, check).play();
        }
        System.out.println("run answered: " + answersOfRun);
        for (int answer : new int[] {-200, -100, -9, -8, -7, -6, -5, -4, -3, -2, -1, 0, 1, 2, 3, 4}) {
            check.holds("run never answered " + answer, answersOfRun.containsKey(answer));
        }
        check.end();
    }

    private void play() {
        int calls = 10 + random.nextInt(60);
        if (random.nextBoolean()) {
            for (int i = 0; i < 4; i++) {
                batch();
            }
        }
        if (random.nextInt(3) == 0) {
            disturbAll();
        }
        for (int i = 0; i < calls && check.wrong() < 20; i++) {
            call(random.nextInt(20));
            compareState();
        }
    }

    /** Makes all batches late and tanks out at once, so that plans with many changes come up. */
    private void disturbAll() {
        for (int i = 0; i < model.plan.size(); i++) {
            int more = 1 + random.nextInt(2);
            check.due("late(" + i + ", " + more + ")", real.late(i, more), model.late(i, more));
        }
        out();
        run();
        compareState();
    }

    private void call(int which) {
        if (which < 2) {
            batch();
        } else if (which < 5) {
            rule();
        } else if (which < 6) {
            freeze();
        } else if (which < 8) {
            out();
        } else if (which < 10) {
            late();
        } else if (which < 17) {
            run();
        } else if (which < 19) {
            check.due("undo()", real.undo(), model.undo());
        } else {
            check.due("copy()", real.copy(), model.copy());
        }
    }

    private int odd() {
        return ODD[random.nextInt(ODD.length)];
    }

    private int oneOf(int bound) {
        return random.nextInt(25) == 0 ? odd() : random.nextInt(Math.max(bound, 1));
    }

    private void batch() {
        int tank = oneOf(model.tanks);
        int start = oneOf(model.days);
        int length = random.nextInt(25) == 0 ? odd() : 1 + random.nextInt(most);
        check.due("batch(" + tank + ", " + start + ", " + length + ")",
                real.batch(tank, start, length), model.batch(tank, start, length));
    }

    private void rule() {
        int kind = oneOf(4);
        int a = oneOf(model.plan.size());
        int b = oneOf(model.plan.size());
        int d = oneOf(kind == 0 ? 3 : model.days + 1);
        if (kind == 2 && random.nextInt(3) != 0) {
            d = model.days - random.nextInt(2);
        }
        check.due("rule(" + kind + ", " + a + ", " + b + ", " + d + ")",
                real.rule(kind, a, b, d), model.rule(kind, a, b, d));
    }

    private void freeze() {
        if (random.nextInt(3) == 0) {
            int batch = oneOf(model.plan.size());
            check.due("freeze(" + batch + ")", real.freeze(batch), model.freeze(batch));
        }
    }

    private void out() {
        int tank = oneOf(model.tanks);
        int from = oneOf(model.days);
        int to = random.nextInt(25) == 0 ? odd() : from + random.nextInt(3);
        check.due("out(" + tank + ", " + from + ", " + to + ")",
                real.out(tank, from, to), model.out(tank, from, to));
    }

    private void late() {
        int batch = oneOf(model.plan.size());
        int more = random.nextInt(10) == 0 ? odd() : random.nextInt(3);
        check.due("late(" + batch + ", " + more + ")", real.late(batch, more), model.late(batch, more));
    }

    private void run() {
        long nodes = random.nextInt(20) == 0 ? random.nextLong() : random.nextInt(6);
        int got = real.run(nodes);
        check.due("run(" + nodes + ")", got, model.run(nodes));
        answersOfRun.merge(got, 1, Integer::sum);
    }

    private void compareState() {
        for (int k = -1; k <= 4; k++) {
            check.due("tankOf(" + k + ")", real.tankOf(k), model.tankOf(k));
            check.due("start(" + k + ")", real.start(k), model.start(k));
            check.due("changed(" + k + ")", real.changed(k), model.changed(k));
        }
        check.due("bound()", real.bound(), model.bound());
        check.due("cost()", real.cost(), model.cost());
        for (int copy = -1; copy <= model.copies.size(); copy++) {
            for (int k = -1; k <= 4; k++) {
                check.due("compare(" + copy + ", " + k + ")", real.compare(copy, k), model.compare(copy, k));
            }
        }
    }
}
