import java.util.ArrayList;
import java.util.List;
import java.util.function.Consumer;
import java.util.function.Function;
import java.util.function.ToLongFunction;

/**
 * A call that is refused, or that only asks, changes nothing. Two objects are made by the same calls;
 * one gets the call; then both are asked for all that can be seen of them, and must tell the same.
 */
public final class RefusedTest {
    private static final Check check = new Check("RefusedTest");
    private static final int MIN = Integer.MIN_VALUE;
    private static final int MAX = Integer.MAX_VALUE;

    public static void main(String[] args) {
        for (State state : State.values()) {
            anyState(state);
        }
        refused(State.NEW, "undo()", 0, x -> x.undo() ? 1 : 0);
        refused(State.NEW, "freeze(0)", 0, x -> x.freeze(0) ? 1 : 0);
        refused(State.NEW, "late(0, 0)", 0, x -> x.late(0, 0) ? 1 : 0);
        refused(State.NEW, "rule(2, 0, 0, 5)", 0, x -> x.rule(2, 0, 0, 5) ? 1 : 0);
        refused(State.SOME, "freeze(1)", 0, x -> x.freeze(1) ? 1 : 0);
        refused(State.BARRED, "undo()", 0, x -> x.undo() ? 1 : 0);
        check.part("FULL");
        check.due("the undos that are kept", undosOf(State.FULL.make()), 16);
        refused(State.FULL, "batch(0, 0, 1)", -2, x -> x.batch(0, 0, 1));
        refused(State.FULL, "rule(3, 0, 0, 9)", 0, x -> x.rule(3, 0, 0, 9) ? 1 : 0);
        refused(State.FULL, "rule(1, 0, 1, 0)", 0, x -> x.rule(1, 0, 1, 0) ? 1 : 0);
        refused(State.FULL, "out(2, 0, 10)", 0, x -> x.out(2, 0, 10) ? 1 : 0);
        refused(State.FULL, "copy()", -2, x -> x.copy());
        check.end();
    }

    private enum State {
        NEW(x -> { }),
        SOME(State::makeSome),
        SPENT(State::makeSpent),
        BARRED(State::makeBarred),
        FULL(State::makeFull);

        private final Consumer<LeastChanges> calls;

        State(Consumer<LeastChanges> calls) {
            this.calls = calls;
        }

        LeastChanges make() {
            LeastChanges x = new LeastChanges(3, 10);
            calls.accept(x);
            return x;
        }

        private static void makeSome(LeastChanges x) {
            x.batch(0, 0, 3);
            x.batch(0, 2, 2);
            x.freeze(1);
            x.rule(0, 0, 1, 1);
            x.copy();
            x.out(0, 5, 6);
            x.run(4);
            x.late(0, 1);
        }

        private static void makeSpent(LeastChanges x) {
            makeSome(x);
            x.run(0);
        }

        private static void makeBarred(LeastChanges x) {
            x.batch(0, 0, 3);
            x.batch(1, 2, 2);
            x.rule(2, 0, 0, 2);
            x.run(4);
        }

        private static void makeFull(LeastChanges x) {
            for (int i = 0; i < 4; i++) {
                x.batch(i % 2, 2 * i, 1);
            }
            for (int i = 0; i < 16; i++) {
                x.late(i % 4, i < 4 ? 1 : 0);
                x.run(4);
                if (i < 8) {
                    x.rule(i % 4, i % 4, (i + 1) % 4, i % 4 == 2 ? 10 : 0);
                    x.copy();
                }
                if (i < 12) {
                    x.out(i % 2, 9, 10);
                }
            }
            x.freeze(3);
        }
    }

    private static void anyState(State state) {
        int[][] batches = {
            {-1, 0, 1}, {3, 0, 1}, {MIN, 0, 1}, {MAX, 0, 1}, {0, 0, 0}, {0, 0, -1}, {0, 0, MIN}, {0, -1, 1},
            {0, MIN, 1}, {0, 10, 1}, {0, 9, 2}, {0, 0, 11}, {0, MAX, 1}, {0, 1, MAX}, {0, MAX, MAX},
        };
        for (int[] w : batches) {
            refused(state, "batch" + text(w), -1, x -> x.batch(w[0], w[1], w[2]));
        }
        int[][] rules = {
            {-1, 0, 1, 0}, {4, 0, 1, 0}, {MIN, 0, 1, 0}, {MAX, 0, 1, 0}, {0, 4, 1, 0}, {1, -1, 1, 0}, {2, 4, 0, 0},
            {3, -1, 0, 0}, {3, MAX, 0, 0}, {2, MIN, 0, 0}, {0, 1, 4, 0}, {0, 1, -1, 0}, {1, 1, MAX, 0}, {1, 1, MIN, 0},
            {0, 0, 0, 0}, {1, 1, 1, 0}, {0, 0, 1, 11}, {0, 0, 1, -1}, {2, 0, 1, 11}, {2, 0, 1, -1}, {3, 0, 1, 11},
            {3, 0, 1, -1}, {3, 0, 1, MAX}, {3, 0, 1, MIN},
        };
        for (int[] w : rules) {
            refused(state, "rule" + text(w), 0, x -> x.rule(w[0], w[1], w[2], w[3]) ? 1 : 0);
        }
        int[][] outs = {
            {-1, 0, 1}, {3, 0, 1}, {MIN, 0, 1}, {MAX, 0, 1}, {0, -1, 1}, {0, 1, 1}, {0, 2, 1}, {0, 0, 11}, {0, 10, 11},
            {0, MIN, 1}, {0, 0, MAX}, {0, MAX, MIN}, {0, MIN, MAX},
        };
        for (int[] w : outs) {
            refused(state, "out" + text(w), 0, x -> x.out(w[0], w[1], w[2]) ? 1 : 0);
        }
        int[][] lates = {{-1, 0}, {4, 0}, {MIN, 0}, {MAX, 0}, {0, -1}, {0, 11}, {0, MIN}, {0, MAX}};
        for (int[] w : lates) {
            refused(state, "late" + text(w), 0, x -> x.late(w[0], w[1]) ? 1 : 0);
        }
        for (int w : new int[] {-1, 4, 5, MIN, MAX}) {
            refused(state, "freeze(" + w + ")", 0, x -> x.freeze(w) ? 1 : 0);
        }
        for (long w : new long[] {-1, 5, MIN, MAX, Long.MIN_VALUE, Long.MAX_VALUE, 1L << 32, (1L << 32) + 4}) {
            refused(state, "run(" + w + ")", -200, x -> x.run(w));
        }
        onlyAsked(state);
    }

    private static void onlyAsked(State state) {
        for (int w : new int[] {-1, 0, 1, 2, 3, 4, MIN, MAX}) {
            same(state, "tankOf(" + w + ")", x -> x.tankOf(w));
            same(state, "start(" + w + ")", x -> x.start(w));
            same(state, "changed(" + w + ")", x -> x.changed(w));
            same(state, "compare(0, " + w + ")", x -> x.compare(0, w));
            same(state, "compare(" + w + ", 0)", x -> x.compare(w, 0));
        }
        same(state, "bound()", x -> x.bound());
        same(state, "cost()", x -> x.cost());
    }

    private static void refused(State state, String call, long due, ToLongFunction<LeastChanges> on) {
        check.part(state.toString());
        check.due(call, on.applyAsLong(state.make()), due);
        same(state, call, on);
    }

    private static void same(State state, String call, ToLongFunction<LeastChanges> on) {
        check.part(state.toString());
        compare(call, RefusedTest::seenGoingBack, state.make(), called(state.make(), on));
        compare(call, RefusedTest::seenGoingOn, state.make(), called(state.make(), on));
    }

    private static LeastChanges called(LeastChanges x, ToLongFunction<LeastChanges> on) {
        on.applyAsLong(x);
        return x;
    }

    private static void compare(String call, Function<LeastChanges, List<Long>> look,
            LeastChanges without, LeastChanges with) {
        List<Long> want = look.apply(without);
        List<Long> got = look.apply(with);
        check.holds(call + " has changed something: " + got + " instead of " + want, got.equals(want));
    }

    /** What is told, and all plans that can be come back to. */
    private static List<Long> seenGoingBack(LeastChanges x) {
        List<Long> seen = new ArrayList<>();
        addTold(x, seen);
        for (int undos = 0; undos < 18; undos++) {
            seen.add(x.undo() ? 1L : 0L);
            addPlan(x, seen);
        }
        addTold(x, seen);
        return seen;
    }

    /** What runs find, and, when all that is left is used up, what they find then. */
    private static List<Long> seenGoingOn(LeastChanges x) {
        List<Long> seen = new ArrayList<>();
        for (int allowed = 0; allowed <= 4; allowed++) {
            seen.add((long) x.run(allowed));
            addTold(x, seen);
        }
        for (int left = 0; left < 9; left++) {
            seen.add((long) x.copy());
        }
        for (int left = 0; left < 5; left++) {
            seen.add((long) x.batch(2, 2 * left, 1));
        }
        for (int left = 0; left < 9; left++) {
            seen.add(x.rule(2, 0, 0, 10) ? 1L : 0L);
        }
        for (int left = 0; left < 13; left++) {
            seen.add(x.out(left % 3, 5, 6) ? 1L : 0L);
        }
        for (int batch = 0; batch < 4; batch++) {
            seen.add((long) x.run(4));
            addTold(x, seen);
            seen.add(x.late(batch, 1) ? 1L : 0L);
            seen.add(x.freeze(batch) ? 1L : 0L);
        }
        seen.add((long) x.run(4));
        return seen;
    }

    private static int undosOf(LeastChanges x) {
        int undos = 0;
        while (undos < 20 && x.undo()) {
            undos++;
        }
        return undos;
    }

    private static void addTold(LeastChanges x, List<Long> seen) {
        addPlan(x, seen);
        for (int k = 0; k < 4; k++) {
            seen.add((long) x.changed(k));
            seen.add((long) x.compare(0, k));
            seen.add((long) x.compare(7, k));
        }
        seen.add((long) x.bound());
        seen.add(x.cost());
    }

    private static void addPlan(LeastChanges x, List<Long> seen) {
        for (int batch = 0; batch < 4; batch++) {
            seen.add((long) x.tankOf(batch));
            seen.add((long) x.start(batch));
        }
    }

    private static String text(int[] arguments) {
        return java.util.Arrays.toString(arguments).replace('[', '(').replace(']', ')');
    }
}
