/** Each promise of the document by hand: ordinary calls, the edges that it names, wrong arguments. */
public final class PromisesTest {
    private static final int MIN = Integer.MIN_VALUE;
    private static final int MAX = Integer.MAX_VALUE;
    private static final int NONE = LeastChanges.NONE;
    private static final int FULL = LeastChanges.FULL;
    private static final int SPENT = LeastChanges.SPENT;
    private static final int REFUSED = -200;

    private static final Check check = new Check("PromisesTest");

    public static void main(String[] args) {
        constants();
        newObject();
        newObjectKeepsWithinLimits();
        batchIsNumbered();
        batchIsRefused();
        batchOfTwoInOnePlace();
        batchIsNotInWhatWasKept();
        ruleIsTakenOrRefused();
        ruleOfKind0();
        ruleOfKind1();
        ruleOfKind2();
        ruleOfKind3();
        freezeIsNewOnce();
        freezeHoldsABatch();
        outIsTakenOrRefused();
        outShutsATank();
        lateIsTakenOrRefused();
        lateMovesTheEarliestStart();
        runRefusesOtherNumbers();
        runTakesFewestChangesFirst();
        runTakesLeastCostNext();
        runTakesTheFirstByOrderLast();
        runIsSpent();
        runNamesWhatBars();
        runWithoutBatches();
        placesOfBatches();
        changedTellsTheLastFoundRun();
        boundTellsTheLastRun();
        undoGoesBack();
        undoKeepsSixteen();
        copiesAreEight();
        compareTellsOtherPlaces();
        costTellsTheLastFoundRun();
        check.end();
    }

    private static void places(LeastChanges x, int... tankAndStart) {
        for (int i = 0; i < tankAndStart.length / 2; i++) {
            check.due("tankOf(" + i + ")", x.tankOf(i), tankAndStart[2 * i]);
            check.due("start(" + i + ")", x.start(i), tankAndStart[2 * i + 1]);
        }
    }

    private static void changedAre(LeastChanges x, int... batches) {
        for (int k = 0; k < batches.length; k++) {
            check.due("changed(" + k + ")", x.changed(k), batches[k]);
        }
        for (int k : new int[] {batches.length, MAX, -1, MIN}) {
            check.due("changed(" + k + ")", x.changed(k), NONE);
        }
    }

    private static void othersAre(LeastChanges x, int copy, int... batches) {
        for (int k = 0; k < batches.length; k++) {
            check.due("compare(" + copy + ", " + k + ")", x.compare(copy, k), batches[k]);
        }
        for (int k : new int[] {batches.length, MAX, -1, MIN}) {
            check.due("compare(" + copy + ", " + k + ")", x.compare(copy, k), NONE);
        }
    }

    private static void run(LeastChanges x, long nodes, int want) {
        check.due("run(" + nodes + ")", x.run(nodes), want);
    }

    /** A batch of one day in tank 0, of one, that is made late by a day: it moves from 0 to 1. */
    private static LeastChanges movedByOne() {
        LeastChanges x = new LeastChanges(1, 10);
        x.batch(0, 0, 1);
        x.late(0, 1);
        run(x, 4, 1);
        places(x, 0, 1);
        return x;
    }

    private static void constants() {
        check.part("constants");
        check.due("NONE", NONE, -1);
        check.due("FULL", FULL, -2);
        check.due("SPENT", SPENT, -100);
    }

    private static void newObject() {
        check.part("promise 1, nothing is there");
        LeastChanges x = new LeastChanges(2, 5);
        check.due("tankOf(0)", x.tankOf(0), NONE);
        check.due("start(0)", x.start(0), NONE);
        changedAre(x);
        othersAre(x, 0);
        check.due("bound()", x.bound(), 0);
        check.due("cost()", x.cost(), 0);
        check.due("undo()", x.undo(), false);
        check.due("rule(2, 0, 0, 5)", x.rule(2, 0, 0, 5), false);
        check.due("copy()", x.copy(), 0);
    }

    private static void newObjectKeepsWithinLimits() {
        check.part("promise 1, limits");
        int[][] asked = {{1, 1}, {2, 9}, {3, 10}, {0, 0}, {-1, -1}, {4, 11}, {MIN, MIN}, {MAX, MAX}};
        int[][] got = {{1, 1}, {2, 9}, {3, 10}, {1, 1}, {1, 1}, {3, 10}, {1, 1}, {3, 10}};
        for (int i = 0; i < asked.length; i++) {
            String made = "new LeastChanges(" + asked[i][0] + ", " + asked[i][1] + ")";
            LeastChanges x = new LeastChanges(asked[i][0], asked[i][1]);
            check.due(made + " tank behind", x.batch(got[i][0], 0, 1), NONE);
            check.due(made + " day behind", x.batch(0, 0, got[i][1] + 1), NONE);
            check.due(made + " last tank", x.batch(got[i][0] - 1, 0, 1), 0);
            check.due(made + " all days", x.batch(0, 0, got[i][1]), 1);
        }
    }

    private static void batchIsNumbered() {
        check.part("promise 2, numbers");
        LeastChanges x = new LeastChanges(3, 10);
        check.due("batch(0, 0, 1)", x.batch(0, 0, 1), 0);
        check.due("batch(1, 3, 7)", x.batch(1, 3, 7), 1);
        check.due("batch(2, 9, 1)", x.batch(2, 9, 1), 2);
        check.due("batch(0, 4, 2)", x.batch(0, 4, 2), 3);
        check.due("batch(0, 8, 2)", x.batch(0, 8, 2), FULL);
        check.due("batch(3, 8, 2)", x.batch(3, 8, 2), NONE);
        places(x, 0, 0, 1, 3, 2, 9, 0, 4);
        check.due("tankOf(4)", x.tankOf(4), NONE);
    }

    private static void batchIsRefused() {
        check.part("promise 2, refused");
        LeastChanges x = new LeastChanges(2, 6);
        int[][] wrong = {
            {-1, 0, 1}, {2, 0, 1}, {MIN, 0, 1}, {MAX, 0, 1},
            {0, 0, 0}, {0, 0, -1}, {0, 0, MIN}, {0, 3, -3},
            {0, -1, 1}, {0, -1, 3}, {0, MIN, 1}, {0, MIN, MIN},
            {0, 6, 1}, {0, 5, 2}, {0, 0, 7}, {0, MAX, 1}, {0, 1, MAX}, {0, MAX, MAX}, {0, MAX, MIN},
        };
        for (int[] w : wrong) {
            check.due("batch(" + w[0] + ", " + w[1] + ", " + w[2] + ")", x.batch(w[0], w[1], w[2]), NONE);
        }
        check.due("batch(1, 5, 1)", x.batch(1, 5, 1), 0);
        check.due("batch(1, 0, 6)", x.batch(1, 0, 6), 1);
    }

    /** The plan need not be good when batches are told: run makes it good. */
    private static void batchOfTwoInOnePlace() {
        check.part("promise 2, two in one place");
        LeastChanges x = new LeastChanges(1, 4);
        check.due("batch(0, 0, 2)", x.batch(0, 0, 2), 0);
        check.due("batch(0, 1, 2)", x.batch(0, 1, 2), 1);
        places(x, 0, 0, 0, 1);
        run(x, 4, 1);
        places(x, 0, 0, 0, 2);
    }

    private static void batchIsNotInWhatWasKept() {
        check.part("promise 2, not in what was kept");
        LeastChanges x = movedByOne();
        check.due("copy()", x.copy(), 0);
        check.due("batch(0, 5, 2)", x.batch(0, 5, 2), 1);
        othersAre(x, 0, 1);
        check.due("undo()", x.undo(), true);
        places(x, 0, 0, 0, 5);
        othersAre(x, 0, 0, 1);
        check.due("undo()", x.undo(), false);
        check.due("freeze(1)", x.freeze(1), true);
        check.due("batch(0, 9, 1)", x.batch(0, 9, 1), 2);
    }

    private static void ruleIsTakenOrRefused() {
        check.part("promise 3, taken or refused");
        LeastChanges x = new LeastChanges(2, 4);
        x.batch(0, 0, 1);
        x.batch(1, 0, 1);
        int[][] wrong = {
            {-1, 0, 1, 0}, {4, 0, 1, 0}, {MIN, 0, 1, 0}, {MAX, 0, 1, 0},
            {0, 2, 1, 0}, {1, 2, 1, 0}, {2, 2, 1, 4}, {3, 2, 1, 0}, {2, -1, 1, 4}, {3, MIN, 1, 0}, {3, MAX, 1, 0},
            {0, 0, 2, 0}, {0, 0, -1, 0}, {1, 0, 2, 0}, {1, 0, MIN, 0}, {0, 1, MAX, 0},
            {0, 0, 0, 0}, {0, 1, 1, 0}, {1, 0, 0, 0}, {1, 1, 1, 0},
            {0, 1, 0, -1}, {0, 1, 0, 11}, {2, 1, 0, -1}, {2, 1, 0, 11}, {3, 1, 0, -1}, {3, 1, 0, 11},
            {0, 1, 0, MIN}, {2, 1, 0, MAX}, {3, 1, 0, MIN},
        };
        for (int[] w : wrong) {
            rule(x, w, false);
        }
        int[][] right = {
            {0, 1, 0, 0}, {0, 1, 0, 10}, {1, 0, 1, -1}, {1, 0, 1, MAX},
            {2, 0, 0, 10}, {2, 0, MIN, 0}, {3, 1, 1, 0}, {3, 1, MAX, 10},
        };
        for (int[] r : right) {
            rule(x, r, true);
        }
        rule(x, new int[] {3, 0, 0, 0}, false);
        rule(x, new int[] {1, 0, 1, 0}, false);
    }

    private static void rule(LeastChanges x, int[] r, boolean want) {
        String call = "rule(" + r[0] + ", " + r[1] + ", " + r[2] + ", " + r[3] + ")";
        check.due(call, x.rule(r[0], r[1], r[2], r[3]), want);
    }

    private static void ruleOfKind0() {
        check.part("promise 3, kind 0");
        LeastChanges x = new LeastChanges(2, 10);
        x.batch(0, 1, 3);
        x.batch(1, 2, 2);
        x.freeze(0);
        rule(x, new int[] {0, 1, 0, 0}, true);
        run(x, 4, 1);
        places(x, 0, 1, 1, 4);
        rule(x, new int[] {0, 1, 0, 3}, true);
        rule(x, new int[] {0, 1, 0, 2}, true);
        run(x, 4, 1);
        places(x, 0, 1, 1, 7);
        run(x, 4, 0);
        rule(x, new int[] {0, 1, 0, 5}, true);
        run(x, 4, -4);

        LeastChanges other = new LeastChanges(2, 10);
        other.batch(0, 8, 2);
        other.batch(1, 7, 2);
        other.freeze(0);
        rule(other, new int[] {0, 0, 1, 1}, true);
        run(other, 4, 1);
        places(other, 0, 8, 1, 5);
    }

    private static void ruleOfKind1() {
        check.part("promise 3, kind 1");
        LeastChanges x = new LeastChanges(2, 6);
        x.batch(0, 0, 1);
        x.batch(0, 4, 1);
        rule(x, new int[] {1, 1, 0, 0}, true);
        run(x, 4, 1);
        places(x, 0, 0, 1, 4);
        check.due("cost()", x.cost(), 3);

        LeastChanges one = new LeastChanges(1, 6);
        one.batch(0, 0, 1);
        one.batch(0, 4, 1);
        rule(one, new int[] {1, 0, 1, 0}, true);
        run(one, 4, -1);
    }

    private static void ruleOfKind2() {
        check.part("promise 3, kind 2");
        LeastChanges x = new LeastChanges(1, 10);
        x.batch(0, 4, 2);
        rule(x, new int[] {2, 0, 3, 6}, true);
        run(x, 4, 0);
        rule(x, new int[] {2, 0, 3, 5}, true);
        run(x, 4, 1);
        places(x, 0, 3);
        rule(x, new int[] {2, 0, 3, 2}, true);
        run(x, 4, 1);
        places(x, 0, 0);
        rule(x, new int[] {2, 0, 3, 1}, true);
        run(x, 4, -4);
    }

    private static void ruleOfKind3() {
        check.part("promise 3, kind 3");
        LeastChanges x = new LeastChanges(1, 10);
        x.batch(0, 4, 2);
        rule(x, new int[] {3, 0, 3, 4}, true);
        run(x, 4, 0);
        rule(x, new int[] {3, 0, 3, 8}, true);
        run(x, 4, 1);
        places(x, 0, 8);
        rule(x, new int[] {3, 0, 3, 9}, true);
        run(x, 4, -3);
        rule(x, new int[] {3, 0, 3, 10}, true);
        run(x, 4, -5);
    }

    private static void freezeIsNewOnce() {
        check.part("promise 4, new once");
        LeastChanges x = new LeastChanges(1, 4);
        check.due("freeze(0)", x.freeze(0), false);
        x.batch(0, 0, 1);
        x.batch(0, 2, 1);
        check.due("freeze(1)", x.freeze(1), true);
        check.due("freeze(1)", x.freeze(1), false);
        check.due("freeze(0)", x.freeze(0), true);
        check.due("freeze(0)", x.freeze(0), false);
        for (int wrong : new int[] {2, -1, 4, MIN, MAX}) {
            check.due("freeze(" + wrong + ")", x.freeze(wrong), false);
        }
    }

    private static void freezeHoldsABatch() {
        check.part("promise 4, held");
        LeastChanges x = new LeastChanges(2, 6);
        x.batch(0, 0, 3);
        x.batch(0, 2, 3);
        x.freeze(1);
        run(x, 4, 1);
        places(x, 1, 0, 0, 2);
        x.freeze(0);
        run(x, 4, 0);
        x.out(1, 0, 1);
        run(x, 4, -1);
        places(x, 1, 0, 0, 2);
        check.due("undo()", x.undo(), true);
        check.due("undo()", x.undo(), true);
        places(x, 0, 0, 0, 2);
        check.due("freeze(0)", x.freeze(0), false);
        run(x, 4, -1);
    }

    private static void outIsTakenOrRefused() {
        check.part("promise 5, taken or refused");
        LeastChanges x = new LeastChanges(2, 6);
        int[][] wrong = {
            {-1, 0, 1}, {2, 0, 1}, {MIN, 0, 1}, {MAX, 0, 1},
            {0, -1, 1}, {0, MIN, 1}, {0, 3, 3}, {0, 3, 2}, {0, 0, 0}, {0, 6, 6},
            {0, 0, 7}, {0, 5, 7}, {0, 6, 7}, {0, 0, MAX}, {0, MAX, MIN}, {0, MIN, MAX}, {0, 0, MIN},
        };
        for (int[] w : wrong) {
            check.due("out(" + w[0] + ", " + w[1] + ", " + w[2] + ")", x.out(w[0], w[1], w[2]), false);
        }
        for (int i = 0; i < 12; i++) {
            check.due("out " + i, x.out(i % 2, 0, i % 3 == 0 ? 6 : 1), true);
        }
        check.due("out(0, 0, 1)", x.out(0, 0, 1), false);
        check.due("out(1, 5, 6)", x.out(1, 5, 6), false);
    }

    private static void outShutsATank() {
        check.part("promise 5, shut");
        LeastChanges x = new LeastChanges(2, 6);
        x.batch(0, 2, 2);
        x.out(0, 4, 6);
        x.out(0, 0, 2);
        x.out(1, 2, 4);
        run(x, 4, 0);
        x.out(0, 3, 4);
        run(x, 4, 1);
        places(x, 1, 0);
        check.due("cost()", x.cost(), 5);
        x.out(1, 1, 2);
        run(x, 4, 1);
        places(x, 1, 4);
        x.out(1, 5, 6);
        run(x, 4, -1);
        places(x, 1, 4);
    }

    private static void lateIsTakenOrRefused() {
        check.part("promise 6, taken or refused");
        LeastChanges x = new LeastChanges(1, 4);
        check.due("late(0, 1)", x.late(0, 1), false);
        x.batch(0, 0, 1);
        check.due("late(0, 0)", x.late(0, 0), true);
        check.due("late(0, 10)", x.late(0, 10), true);
        for (int wrong : new int[] {-1, 11, MIN, MAX}) {
            check.due("late(0, " + wrong + ")", x.late(0, wrong), false);
        }
        for (int wrong : new int[] {1, -1, 4, MIN, MAX}) {
            check.due("late(" + wrong + ", 0)", x.late(wrong, 0), false);
        }
        run(x, 4, -1);
    }

    private static void lateMovesTheEarliestStart() {
        check.part("promise 6, earliest start");
        LeastChanges x = new LeastChanges(1, 10);
        x.batch(0, 3, 2);
        x.late(0, 2);
        run(x, 4, 1);
        places(x, 0, 5);
        rule(x, new int[] {2, 0, 0, 6}, true);
        run(x, 4, -1);
        // The last word holds, though it is less: 5 and no more, and after the undo 3 and no more.
        x.late(0, 5);
        x.late(0, 0);
        run(x, 4, -1);
        check.due("undo()", x.undo(), true);
        x.late(0, 0);
        run(x, 4, 0);
        places(x, 0, 3);
        x.late(0, 1);
        run(x, 4, 1);
        places(x, 0, 4);
        x.late(0, 1);
        run(x, 0, -1);
    }

    private static void runRefusesOtherNumbers() {
        check.part("promise 7, refused");
        LeastChanges x = movedByOne();
        x.late(0, 1);
        run(x, 0, SPENT);
        long[] wrong = {-1, 5, MIN, MAX, Long.MIN_VALUE, Long.MAX_VALUE, 1L << 32, (1L << 32) + 1, -(1L << 32)};
        for (long nodes : wrong) {
            run(x, nodes, REFUSED);
            check.due("bound()", x.bound(), 1);
        }
        places(x, 0, 1);
        changedAre(x, 0);
        check.due("undo()", x.undo(), true);
        check.due("undo()", x.undo(), false);
    }

    private static void runTakesFewestChangesFirst() {
        check.part("promise 7, fewest changes");
        // Both could go by a day, which costs 2; the late one alone must go behind the other for 4.
        LeastChanges x = new LeastChanges(1, 10);
        x.batch(0, 2, 2);
        x.batch(0, 4, 2);
        x.late(0, 1);
        run(x, 4, 1);
        check.due("cost()", x.cost(), 4);
        places(x, 0, 6, 0, 4);

        LeastChanges y = new LeastChanges(2, 4);
        y.batch(0, 0, 3);
        y.batch(0, 1, 3);
        run(y, 4, 1);
        check.due("cost()", y.cost(), 3);
        places(y, 0, 0, 1, 1);
        // One alone can't make room.
        LeastChanges z = new LeastChanges(1, 4);
        z.batch(0, 1, 2);
        z.batch(0, 1, 2);
        run(z, 1, SPENT);
        run(z, 4, 2);
        check.due("cost()", z.cost(), 2);
        places(z, 0, 0, 0, 2);
        changedAre(z, 0, 1);
    }

    private static void runTakesLeastCostNext() {
        check.part("promise 7, least cost");
        // In its tank the batch would have to go by four days; in the other one it needs none.
        LeastChanges x = new LeastChanges(3, 10);
        x.batch(1, 4, 1);
        x.out(1, 1, 8);
        run(x, 4, 1);
        places(x, 0, 4);
        check.due("cost()", x.cost(), 3);
        // Four days to the left in its tank cost less than two days and another tank.
        LeastChanges y = new LeastChanges(2, 10);
        y.batch(1, 6, 1);
        y.out(1, 3, 10);
        y.out(0, 5, 8);
        run(y, 4, 1);
        places(y, 1, 2);
        check.due("cost()", y.cost(), 4);
        // The second batch moves for less than the first one.
        LeastChanges z = new LeastChanges(1, 10);
        z.batch(0, 0, 5);
        z.batch(0, 4, 2);
        run(z, 4, 1);
        places(z, 0, 0, 0, 5);
        check.due("cost()", z.cost(), 1);
    }

    private static void runTakesTheFirstByOrderLast() {
        check.part("promise 7, first by order");
        // By the tank: both others cost 3.
        LeastChanges x = new LeastChanges(3, 1);
        x.batch(1, 0, 1);
        x.out(1, 0, 1);
        run(x, 4, 1);
        places(x, 0, 0);
        // By the start: a day to the left or to the right.
        LeastChanges y = new LeastChanges(1, 5);
        y.batch(0, 2, 1);
        y.out(0, 2, 3);
        run(y, 4, 1);
        places(y, 0, 1);
        // The tank goes before the start: start 4 in tank 0 before start 1 in tank 1, both cost 3.
        LeastChanges w = new LeastChanges(2, 6);
        w.batch(1, 4, 1);
        w.out(1, 2, 6);
        run(w, 4, 1);
        places(w, 0, 4);
        check.due("cost()", w.cost(), 3);
        // The first batch decides: moved to the left it is less than where it stood.
        LeastChanges z = new LeastChanges(1, 6);
        z.batch(0, 2, 2);
        z.batch(0, 3, 2);
        run(z, 4, 1);
        places(z, 0, 1, 0, 3);
        // Here to move the first one would make it more, so the second one moves.
        LeastChanges v = new LeastChanges(1, 6);
        v.batch(0, 3, 2);
        v.batch(0, 2, 2);
        run(v, 4, 1);
        places(v, 0, 3, 0, 1);
    }

    private static void runIsSpent() {
        check.part("promise 7, spent");
        LeastChanges x = new LeastChanges(2, 4);
        for (int i = 0; i < 4; i++) {
            x.batch(0, i, 1);
        }
        x.out(0, 0, 4);
        for (int nodes = 0; nodes < 4; nodes++) {
            run(x, nodes, SPENT);
            check.due("bound()", x.bound(), nodes + 1);
        }
        places(x, 0, 0, 0, 1, 0, 2, 0, 3);
        check.due("undo()", x.undo(), false);
        run(x, 4, 4);
        check.due("cost()", x.cost(), 12);
        places(x, 1, 0, 1, 1, 1, 2, 1, 3);
        changedAre(x, 0, 1, 2, 3);
        // No good plan at all is told before how many may be changed.
        x.out(1, 0, 1);
        run(x, 0, -1);
    }

    private static void runNamesWhatBars() {
        check.part("promise 7, what bars");
        LeastChanges x = new LeastChanges(1, 4);
        x.batch(0, 0, 2);
        x.batch(0, 2, 2);
        rule(x, new int[] {2, 0, 0, 4}, true);
        rule(x, new int[] {0, 0, 1, 0}, true);
        rule(x, new int[] {0, 1, 0, 0}, true);
        run(x, 4, -2);
        rule(x, new int[] {0, 1, 0, 0}, true);
        run(x, 0, -2);
        rule(x, new int[] {0, 0, 1, 0}, true);
        run(x, 4, -6);
        check.due("bound()", x.bound(), 5);
        places(x, 0, 0, 0, 2);
        check.due("undo()", x.undo(), false);
        // A frozen batch stays where it is, also when a rule is left out.
        LeastChanges y = new LeastChanges(1, 4);
        y.batch(0, 2, 2);
        rule(y, new int[] {3, 0, 0, 1}, true);
        rule(y, new int[] {2, 0, 0, 3}, true);
        run(y, 0, SPENT);
        y.freeze(0);
        run(y, 4, -2);
        y.out(0, 3, 4);
        run(y, 4, -3);
        // The last of eight rules bars.
        LeastChanges z = new LeastChanges(1, 4);
        z.batch(0, 2, 2);
        for (int i = 0; i < 7; i++) {
            rule(z, new int[] {3, 0, 0, 2}, true);
        }
        run(z, 4, 0);
        rule(z, new int[] {2, 0, 0, 3}, true);
        run(z, 4, -8);
    }

    private static void runWithoutBatches() {
        check.part("promise 7, no batches");
        LeastChanges x = new LeastChanges(1, 1);
        x.out(0, 0, 1);
        run(x, 0, 0);
        run(x, 4, 0);
        check.due("undo()", x.undo(), true);
        check.due("undo()", x.undo(), true);
        check.due("undo()", x.undo(), false);
    }

    private static void placesOfBatches() {
        check.part("promises 8 and 9");
        LeastChanges x = new LeastChanges(3, 10);
        x.batch(2, 9, 1);
        x.batch(1, 0, 10);
        places(x, 2, 9, 1, 0);
        for (int wrong : new int[] {-1, 2, 3, 4, MIN, MAX}) {
            check.due("tankOf(" + wrong + ")", x.tankOf(wrong), NONE);
            check.due("start(" + wrong + ")", x.start(wrong), NONE);
        }
        x.out(2, 9, 10);
        run(x, 4, 1);
        places(x, 2, 8, 1, 0);
    }

    private static void changedTellsTheLastFoundRun() {
        check.part("promise 10");
        LeastChanges x = new LeastChanges(3, 10);
        for (int i = 0; i < 4; i++) {
            x.batch(0, 2 * i, 1);
        }
        x.late(1, 1);
        x.late(3, 1);
        run(x, 4, 2);
        changedAre(x, 1, 3);
        x.late(0, 1);
        run(x, 0, SPENT);
        changedAre(x, 1, 3);
        run(x, 5, REFUSED);
        changedAre(x, 1, 3);
        check.due("undo()", x.undo(), true);
        changedAre(x, 1, 3);
        x.late(0, 10);
        run(x, 4, -1);
        changedAre(x, 1, 3);
        x.late(0, 0);
        x.late(1, 0);
        x.late(3, 0);
        run(x, 4, 0);
        changedAre(x);
        x.late(2, 1);
        run(x, 4, 1);
        changedAre(x, 2);
    }

    private static void boundTellsTheLastRun() {
        check.part("promise 11");
        LeastChanges x = new LeastChanges(1, 10);
        check.due("bound()", x.bound(), 0);
        x.batch(0, 0, 1);
        x.batch(0, 4, 1);
        x.late(0, 1);
        x.late(1, 1);
        run(x, 1, SPENT);
        check.due("bound()", x.bound(), 2);
        run(x, 0, SPENT);
        check.due("bound()", x.bound(), 1);
        run(x, 9, REFUSED);
        check.due("bound()", x.bound(), 1);
        run(x, 3, 2);
        check.due("bound()", x.bound(), 2);
        check.due("undo()", x.undo(), true);
        check.due("bound()", x.bound(), 2);
        x.late(1, 10);
        run(x, 3, -1);
        check.due("bound()", x.bound(), 5);
        run(x, -1, REFUSED);
        check.due("bound()", x.bound(), 5);
        x.late(0, 0);
        x.late(1, 0);
        run(x, 0, 0);
        check.due("bound()", x.bound(), 0);
    }

    private static void undoGoesBack() {
        check.part("promise 12");
        LeastChanges x = movedByOne();
        x.late(0, 2);
        run(x, 1, 1);
        places(x, 0, 3);
        x.late(0, 3);
        run(x, 0, SPENT);
        x.late(0, 10);
        run(x, 4, -1);
        run(x, 6, REFUSED);
        check.due("undo()", x.undo(), true);
        places(x, 0, 1);
        check.due("undo()", x.undo(), true);
        places(x, 0, 0);
        check.due("undo()", x.undo(), false);
        places(x, 0, 0);
        // What is not the plan stays: the batch is late still.
        run(x, 4, -1);
        // A run that found the plan that stands is one too, and a run behind an undo is the last.
        x.late(0, 0);
        run(x, 4, 0);
        x.late(0, 5);
        run(x, 4, 1);
        check.due("undo()", x.undo(), true);
        places(x, 0, 0);
        x.late(0, 7);
        run(x, 4, 1);
        places(x, 0, 7);
        check.due("undo()", x.undo(), true);
        places(x, 0, 0);
        check.due("undo()", x.undo(), true);
        check.due("undo()", x.undo(), false);
    }

    private static void undoKeepsSixteen() {
        check.part("promise 12, sixteen");
        for (int runs = 11; runs <= 27; runs++) {
            LeastChanges x = new LeastChanges(3, 10);
            for (int tank = 0; tank < 3; tank++) {
                run(x, 0, 0);
                x.batch(tank, 0, 1);
            }
            for (int i = 0; i < runs; i++) {
                x.late(i % 3, 1);
                run(x, 1, 1);
            }
            placesAfter(x, runs);
            int kept = Math.min(runs + 3, 16);
            for (int i = 1; i <= kept; i++) {
                check.due("undo()", x.undo(), true);
                placesAfter(x, Math.max(runs - i, 0));
            }
            check.due("undo()", x.undo(), false);
            placesAfter(x, Math.max(runs - kept, 0));
        }
    }

    /** The three batches move by a day in turn, so that no two plans of a row are the same. */
    private static void placesAfter(LeastChanges x, int runs) {
        places(x, 0, (runs + 2) / 3, 1, (runs + 1) / 3, 2, runs / 3);
    }

    private static void copiesAreEight() {
        check.part("promise 13");
        LeastChanges x = new LeastChanges(1, 10);
        check.due("copy()", x.copy(), 0);
        x.batch(0, 0, 1);
        for (int i = 1; i < 8; i++) {
            check.due("copy()", x.copy(), i);
            x.late(0, 1);
            run(x, 4, 1);
        }
        check.due("copy()", x.copy(), FULL);
        check.due("copy()", x.copy(), FULL);
        for (int i = 6; i >= 0; i--) {
            check.due("undo()", x.undo(), true);
            places(x, 0, i);
            for (int copy = 0; copy < 8; copy++) {
                check.due("compare(" + copy + ", 0)", x.compare(copy, 0), copy == i + 1 ? NONE : 0);
            }
        }
        check.due("copy()", x.copy(), FULL);
    }

    private static void compareTellsOtherPlaces() {
        check.part("promise 14");
        LeastChanges x = new LeastChanges(2, 10);
        check.due("copy()", x.copy(), 0);
        x.batch(0, 0, 1);
        x.batch(0, 3, 1);
        x.batch(0, 6, 1);
        check.due("copy()", x.copy(), 1);
        othersAre(x, 0, 0, 1, 2);
        othersAre(x, 1);
        for (int wrong : new int[] {2, 8, -1, MIN, MAX}) {
            othersAre(x, wrong);
        }
        // Batch 0 goes to another tank on the same day, batch 2 to another day in the same tank.
        rule(x, new int[] {1, 0, 1, 0}, true);
        rule(x, new int[] {1, 0, 2, 0}, true);
        x.late(2, 1);
        run(x, 4, 2);
        places(x, 1, 0, 0, 3, 0, 7);
        othersAre(x, 1, 0, 2);
        check.due("batch(1, 9, 1)", x.batch(1, 9, 1), 3);
        othersAre(x, 1, 0, 2, 3);
        othersAre(x, 0, 0, 1, 2, 3);
        check.due("undo()", x.undo(), true);
        othersAre(x, 1, 3);
        check.due("copy()", x.copy(), 2);
        othersAre(x, 2);
    }

    private static void costTellsTheLastFoundRun() {
        check.part("promise 15");
        LeastChanges x = new LeastChanges(2, 10);
        check.due("cost()", x.cost(), 0);
        x.batch(0, 0, 2);
        x.batch(0, 5, 1);
        x.out(0, 0, 10);
        x.late(0, 3);
        run(x, 1, SPENT);
        check.due("cost()", x.cost(), 0);
        run(x, 2, 2);
        places(x, 1, 3, 1, 5);
        check.due("cost()", x.cost(), 9);
        run(x, 7, REFUSED);
        check.due("cost()", x.cost(), 9);
        check.due("undo()", x.undo(), true);
        check.due("cost()", x.cost(), 9);
        x.out(1, 0, 10);
        run(x, 4, -1);
        check.due("cost()", x.cost(), 9);

        LeastChanges y = movedByOne();
        check.due("cost()", y.cost(), 1);
        run(y, 4, 0);
        check.due("cost()", y.cost(), 0);
        // The dearest run: four batches through all days and into another tank.
        LeastChanges z = new LeastChanges(2, 10);
        for (int i = 0; i < 4; i++) {
            z.batch(0, 0, 1);
            z.late(i, 6);
        }
        z.out(0, 0, 10);
        run(z, 4, 4);
        check.due("cost()", z.cost(), 6 + 7 + 8 + 9 + 12);
    }
}
