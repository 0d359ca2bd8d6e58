/** An object whose every call is compared with the answer that is due; the last argument is that one. */
final class Asked {
    static final int MIN = Integer.MIN_VALUE;
    static final int MAX = Integer.MAX_VALUE;
    static final int NONE = -1;
    static final int FULL = -2;
    static final int SPENT = -100;
    static final int REFUSED = -200;
    /** Numbers that no batch, tank, copy or count of anything can have. */
    private static final int[] NOWHERE = {-1, -2, 100, MIN, MIN + 1, MAX - 1, MAX};

    final LeastChanges x;
    private final Check check;
    private final String made;
    private int calls;

    Asked(Check check, int tanks, int days) {
        this.check = check;
        this.made = "(" + tanks + ", " + days + ")";
        this.x = new LeastChanges(tanks, days);
    }

    Asked batch(int tank, int start, int length, int want) {
        due("batch(" + tank + ", " + start + ", " + length + ")", x.batch(tank, start, length), want);
        return this;
    }

    Asked rule(int kind, int a, int b, int days, boolean want) {
        due("rule(" + kind + ", " + a + ", " + b + ", " + days + ")", x.rule(kind, a, b, days), want);
        return this;
    }

    Asked freeze(int batch, boolean want) {
        due("freeze(" + batch + ")", x.freeze(batch), want);
        return this;
    }

    Asked out(int tank, int from, int to, boolean want) {
        due("out(" + tank + ", " + from + ", " + to + ")", x.out(tank, from, to), want);
        return this;
    }

    Asked late(int batch, int days, boolean want) {
        due("late(" + batch + ", " + days + ")", x.late(batch, days), want);
        return this;
    }

    Asked run(long nodes, int want) {
        due("run(" + nodes + ")", x.run(nodes), want);
        return this;
    }

    Asked bound(int want) {
        due("bound()", x.bound(), want);
        return this;
    }

    Asked cost(long want) {
        due("cost()", x.cost(), want);
        return this;
    }

    Asked undo(boolean want) {
        due("undo()", x.undo(), want);
        return this;
    }

    Asked copy(int want) {
        due("copy()", x.copy(), want);
        return this;
    }

    /** The first batches, each with its tank and its start. */
    Asked places(int... tanksAndStarts) {
        for (int i = 0; i < tanksAndStarts.length / 2; i++) {
            due("tankOf(" + i + ")", x.tankOf(i), tanksAndStarts[2 * i]);
            due("start(" + i + ")", x.start(i), tanksAndStarts[2 * i + 1]);
        }
        return this;
    }

    /** All batches, each with its tank and its start; there are no others. */
    Asked plan(int... tanksAndStarts) {
        places(tanksAndStarts);
        int batches = tanksAndStarts.length / 2;
        due("tankOf(" + batches + ")", x.tankOf(batches), NONE);
        due("start(" + batches + ")", x.start(batches), NONE);
        for (int batch : NOWHERE) {
            due("tankOf(" + batch + ")", x.tankOf(batch), NONE);
            due("start(" + batch + ")", x.start(batch), NONE);
        }
        return this;
    }

    /** All batches that the last run that found a plan has changed. */
    Asked changed(int... batches) {
        for (int k = 0; k < batches.length; k++) {
            due("changed(" + k + ")", x.changed(k), batches[k]);
        }
        due("changed(" + batches.length + ")", x.changed(batches.length), NONE);
        for (int k : NOWHERE) {
            due("changed(" + k + ")", x.changed(k), NONE);
        }
        return this;
    }

    /** All batches that are elsewhere than in a copy. */
    Asked compare(int copy, int... batches) {
        for (int k = 0; k < batches.length; k++) {
            due("compare(" + copy + ", " + k + ")", x.compare(copy, k), batches[k]);
        }
        due("compare(" + copy + ", " + batches.length + ")", x.compare(copy, batches.length), NONE);
        for (int k : NOWHERE) {
            due("compare(" + copy + ", " + k + ")", x.compare(copy, k), NONE);
        }
        return this;
    }

    private void due(String call, boolean got, boolean want) {
        due(call, got ? 1 : 0, want ? 1 : 0);
    }

    /** What is answered after 512 calls is free, so that no test may go by it. */
    private void due(String call, long got, long want) {
        calls++;
        check.holds(made + " is asked more than 512 times", calls <= 512);
        check.due(made + " " + call, got, want);
    }
}
