/**
 * Ints and longs at the ends of their ranges, and around each limit of the document, in every argument
 * of every call and in all combinations: the answer and the plan behind it are those of the plain model.
 */
public final class RangesTest {
    private static final Check check = new Check("RangesTest");
    private static final int MIN = Integer.MIN_VALUE;
    private static final int MAX = Integer.MAX_VALUE;
    private static final int[] ENDS = {
        MIN, MIN + 1, -MAX / 2, -11, -1, 0, 1, 2, 3, 4, 5, 8, 9, 10, 11, MAX / 2, MAX - 1, MAX,
    };
    private static final long[] LONG_ENDS = {
        Long.MIN_VALUE, Long.MIN_VALUE + 1, (long) MIN - 1, MIN, -(1L << 32), 4 - (1L << 32), -1, 0, 1, 2, 3, 4, 5,
        MAX, (long) MAX + 1, 1L << 32, (1L << 32) + 1, (1L << 32) + 4, Long.MAX_VALUE - 1, Long.MAX_VALUE,
    };

    public static void main(String[] args) {
        madeOfAny();
        batchOfAny();
        ruleOfAny();
        freezeAndOutAndLateOfAny();
        runOfAny();
        askedForAny();
        check.end();
    }

    private static LeastChanges real;
    private static PlainModel model;

    private static void make(int tanks, int days) {
        real = new LeastChanges(tanks, days);
        model = new PlainModel(tanks, days);
    }

    private static void makeWithTwo() {
        make(2, 4);
        batch(0, 0, 2);
        batch(1, 1, 1);
    }

    private static void batch(int tank, int start, int length) {
        check.due("batch(" + tank + ", " + start + ", " + length + ")",
                real.batch(tank, start, length), model.batch(tank, start, length));
    }

    private static void run(long nodes) {
        check.due("run(" + nodes + ")", real.run(nodes), model.run(nodes));
        for (int batch = 0; batch < 4; batch++) {
            check.due("tankOf(" + batch + ")", real.tankOf(batch), model.tankOf(batch));
            check.due("start(" + batch + ")", real.start(batch), model.start(batch));
        }
        check.due("bound()", real.bound(), model.bound());
        check.due("cost()", real.cost(), model.cost());
    }

    private static void madeOfAny() {
        for (int tanks : ENDS) {
            for (int days : ENDS) {
                check.part("new LeastChanges(" + tanks + ", " + days + ")");
                for (int tank = -1; tank <= 4; tank++) {
                    for (int end = 0; end <= 12; end++) {
                        make(tanks, days);
                        batch(tank, 0, end);
                        batch(tank, end - 1, 1);
                        run(4);
                    }
                }
            }
        }
    }

    private static void batchOfAny() {
        check.part("batch");
        for (int tank : ENDS) {
            for (int start : ENDS) {
                for (int length : ENDS) {
                    make(3, 10);
                    batch(tank, start, length);
                    run(4);
                    make(1, 1);
                    batch(tank, start, length);
                    run(4);
                }
            }
        }
    }

    private static void ruleOfAny() {
        check.part("rule");
        for (int kind : ENDS) {
            for (int a : ENDS) {
                for (int b : ENDS) {
                    for (int days : ENDS) {
                        makeWithTwo();
                        check.due("rule(" + kind + ", " + a + ", " + b + ", " + days + ")",
                                real.rule(kind, a, b, days), model.rule(kind, a, b, days));
                        run(4);
                    }
                }
            }
        }
    }

    private static void freezeAndOutAndLateOfAny() {
        check.part("freeze, out and late");
        for (int first : ENDS) {
            makeWithTwo();
            check.due("freeze(" + first + ")", real.freeze(first), model.freeze(first));
            check.due("out(0, 0, 4)", real.out(0, 0, 4), model.out(0, 0, 4));
            run(4);
            for (int second : ENDS) {
                makeWithTwo();
                check.due("late(" + first + ", " + second + ")", real.late(first, second), model.late(first, second));
                run(4);
                for (int third : ENDS) {
                    makeWithTwo();
                    check.due("out(" + first + ", " + second + ", " + third + ")",
                            real.out(first, second, third), model.out(first, second, third));
                    run(4);
                }
            }
        }
    }

    private static void runOfAny() {
        check.part("run");
        for (long nodes : LONG_ENDS) {
            for (int late = 0; late <= 4; late++) {
                makeWithTwo();
                real.late(0, late);
                model.late(0, late);
                real.late(1, late);
                model.late(1, late);
                run(nodes);
                check.due("undo()", real.undo(), model.undo());
                check.due("undo()", real.undo(), model.undo());
            }
        }
    }

    private static void askedForAny() {
        check.part("what is asked");
        for (int copies = 0; copies <= 8; copies++) {
            makeWithTwo();
            for (int i = 0; i < copies; i++) {
                check.due("copy()", real.copy(), model.copy());
            }
            real.late(0, 1);
            model.late(0, 1);
            run(4);
            for (int first : ENDS) {
                check.due("tankOf(" + first + ")", real.tankOf(first), model.tankOf(first));
                check.due("start(" + first + ")", real.start(first), model.start(first));
                check.due("changed(" + first + ")", real.changed(first), model.changed(first));
                for (int second : ENDS) {
                    check.due("compare(" + first + ", " + second + ")",
                            real.compare(first, second), model.compare(first, second));
                }
            }
        }
    }
}
