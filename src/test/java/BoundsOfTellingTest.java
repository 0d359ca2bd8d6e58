/** A test for each sentence of the promises 1 to 6 that names a boundary; each part bears its words. */
public final class BoundsOfTellingTest {
    private static final Check check = new Check("BoundsOfTellingTest");
    private static final int MIN = Asked.MIN;
    private static final int MAX = Asked.MAX;
    private static final int NONE = Asked.NONE;
    private static final int[] NO_BATCH_OF_TWO = {-1, 2, 3, 4, 100, MIN, MIN + 1, MAX - 1, MAX};
    private static final int[] NO_NUMBER = {-1, -10, 11, 12, MIN, MIN + 1, MAX - 1, MAX};

    public static void main(String[] args) {
        tooFewTanks();
        tooManyTanks();
        tooFewDays();
        tooManyDays();
        noBatchesAtFirst();
        noRulesAtFirst();
        noOutsAtFirst();
        noCopiesAtFirst();
        batchInNoSuchTank();
        batchOfALengthLessThan1();
        batchNotWithinTheDays();
        batchWhenThereAreFour();
        batchStaysOutOfWhatIsKept();
        ruleOfAnotherKind();
        ruleWhoseFirstIsNoBatch();
        ruleWhoseSecondIsNoBatch();
        ruleOfOneAndTheSame();
        ruleOfOtherDays();
        ruleWhenThereAreEight();
        ruleDoesNotLookAtB();
        ruleDoesNotLookAtDays();
        freezeThatIsNew();
        freezeOfNone();
        outOfNoSuchTank();
        outOfOtherDays();
        outWhenThereAreTwelve();
        lateByItsStartInThePlan();
        lateByOtherNumbers();
        lateOfNoSuchBatch();
        check.end();
    }

    private static Asked made(int tanks, int days) {
        return new Asked(check, tanks, days);
    }

    private static Asked ofTwo() {
        return made(2, 6).batch(0, 0, 1, 0).batch(1, 0, 1, 1);
    }

    private static void tooFewTanks() {
        check.part("promise 1: tanks, 'but at least 1'");
        for (int tanks : new int[] {1, 0, -1, -3, MIN, MIN + 1}) {
            made(tanks, 5).batch(1, 0, 1, NONE).out(1, 0, 1, false).batch(0, 0, 1, 0).out(0, 0, 5, true).run(4, -1);
        }
    }

    private static void tooManyTanks() {
        check.part("promise 1: tanks, 'at most 3'");
        made(2, 5).batch(2, 0, 1, NONE).out(2, 0, 1, false);
        for (int tanks : new int[] {3, 4, 5, 10, MAX, MAX - 1}) {
            made(tanks, 5).batch(3, 0, 1, NONE).out(3, 0, 1, false).batch(2, 0, 1, 0).out(2, 0, 5, true)
                    .run(4, 1).plan(0, 0).out(0, 0, 5, true).run(4, 1).plan(1, 0).out(1, 0, 5, true).run(4, -1);
        }
    }

    private static void tooFewDays() {
        check.part("promise 1: 'days, at least 1'");
        for (int days : new int[] {1, 0, -1, -10, MIN, MIN + 1}) {
            made(2, days).batch(0, 1, 1, NONE).batch(0, 0, 2, NONE).out(0, 0, 2, false).batch(0, 0, 1, 0)
                    .out(0, 0, 1, true).run(4, 1).plan(1, 0).late(0, 1, true).run(4, -1);
        }
    }

    private static void tooManyDays() {
        check.part("promise 1: 'days, [..] at most 10'");
        made(1, 9).batch(0, 9, 1, NONE).batch(0, 0, 10, NONE).batch(0, 0, 9, 0);
        for (int days : new int[] {10, 11, 12, 20, MAX, MAX - 1}) {
            made(1, days).batch(0, 10, 1, NONE).batch(0, 0, 11, NONE).out(0, 0, 11, false).batch(0, 0, 10, 0)
                    .out(0, 0, 10, true);
            made(1, days).batch(0, 0, 1, 0).late(0, 9, true).run(4, 1).plan(0, 9).late(0, 1, true).run(4, -1);
        }
    }

    private static void noBatchesAtFirst() {
        check.part("promise 1: 'No batches'");
        made(3, 10).plan().run(0, 0).changed().freeze(0, false).late(0, 0, false)
                .rule(0, 0, 1, 0, false).rule(1, 0, 1, 0, false).rule(2, 0, 0, 0, false).rule(3, 0, 0, 0, false)
                .copy(0).compare(0).batch(0, 0, 1, 0);
    }

    private static void noRulesAtFirst() {
        check.part("promise 1: no 'rules'");
        // None is broken, none bars, and there is room for eight.
        made(1, 1).batch(0, 0, 1, 0).run(0, 0).out(0, 0, 1, true).run(4, -1).rule(2, 0, 0, 1, true).run(4, -2);
    }

    private static void noOutsAtFirst() {
        check.part("promise 1: no 'outs'");
        for (int tank = 0; tank < 3; tank++) {
            made(3, 10).batch(tank, 0, 10, 0).run(0, 0);
        }
    }

    private static void noCopiesAtFirst() {
        check.part("promise 1: no 'copies'");
        made(1, 1).batch(0, 0, 1, 0).compare(0).compare(1).compare(7).copy(0).compare(0).compare(1);
    }

    private static void batchInNoSuchTank() {
        check.part("promise 2: 'NONE, refused, when there is no such tank'");
        for (int tanks = 1; tanks <= 3; tanks++) {
            Asked x = made(tanks, 10);
            for (int tank : new int[] {-1, tanks, tanks + 1, 4, 100, MIN, MIN + 1, MAX - 1, MAX}) {
                x.batch(tank, 0, 1, NONE);
            }
            x.plan();
            for (int tank = 0; tank < tanks; tank++) {
                x.batch(tank, 0, 1, tank);
            }
        }
    }

    private static void batchOfALengthLessThan1() {
        check.part("promise 2: 'the length is less than 1'");
        Asked x = made(1, 10);
        for (int length : new int[] {0, -1, -9, -10, MIN, MIN + 1}) {
            for (int start : new int[] {0, 1, 5, 9, 10, MAX, MIN}) {
                x.batch(0, start, length, NONE);
            }
        }
        x.plan().batch(0, 0, 1, 0).plan(0, 0);
    }

    private static void batchNotWithinTheDays() {
        check.part("promise 2: 'it would not be within the days'");
        for (int days = 1; days <= 10; days++) {
            for (int start = -2; start <= days + 2; start++) {
                for (int length = 1; length <= days + 3; length++) {
                    boolean within = start >= 0 && start + length <= days;
                    made(1, days).batch(0, start, length, within ? 0 : NONE);
                }
            }
            // Where start and length together go around the ends of an int.
            made(1, days).batch(0, MAX, 1, NONE).batch(0, 1, MAX, NONE).batch(0, MAX, MAX, NONE)
                    .batch(0, MIN, MAX, NONE).batch(0, MIN + 1, MAX, NONE).batch(0, -1, MAX, NONE)
                    .batch(0, -1, 2, NONE).batch(0, MIN, 1, NONE).plan();
        }
    }

    private static void batchWhenThereAreFour() {
        check.part("promise 2: 'FULL'");
        Asked x = made(3, 10);
        for (int i = 0; i < 4; i++) {
            x.batch(i % 3, i, 1, i);
        }
        x.batch(0, 9, 1, Asked.FULL).batch(2, 0, 10, Asked.FULL).plan(0, 0, 1, 1, 2, 2, 0, 3).run(0, 0);
        // What is refused is refused also then.
        x.batch(3, 0, 1, NONE).batch(0, 0, 0, NONE).batch(0, 9, 2, NONE).batch(-1, 0, 1, NONE);
        // A refused batch is none: it takes no number, and the fourth one has room.
        made(1, 1).batch(0, 0, 1, 0).batch(0, 0, 2, NONE).batch(0, 0, 1, 1).batch(1, 0, 1, NONE)
                .batch(0, 0, 1, 2).batch(0, 0, 0, NONE).batch(0, 0, 1, 3).batch(0, 0, 1, Asked.FULL);
    }

    private static void batchStaysOutOfWhatIsKept() {
        check.part("promise 2: 'What was undone or copied stays without it'");
        Asked x = made(1, 10).copy(0).run(0, 0).batch(0, 0, 1, 0).copy(1).late(0, 1, true).run(1, 1);
        x.copy(2).batch(0, 5, 1, 1).late(1, 1, true).run(1, 1).plan(0, 1, 0, 6);
        x.compare(0, 0, 1).compare(1, 0, 1).compare(2, 1);
        x.undo(true).plan(0, 1, 0, 5).compare(2, 1);
        x.undo(true).plan(0, 0, 0, 5).compare(1, 1);
        x.undo(true).plan(0, 0, 0, 5).compare(0, 0, 1).undo(false);
    }

    private static void ruleOfAnotherKind() {
        check.part("promise 3: 'False, refused, for another kind'");
        Asked x = ofTwo().out(0, 0, 6, true).out(1, 0, 6, true);
        for (int kind : new int[] {-1, -2, 4, 5, 100, MIN, MIN + 1, MAX - 1, MAX}) {
            x.rule(kind, 0, 1, 0, false);
        }
        x.run(4, -1).rule(0, 0, 1, 0, true).rule(1, 0, 1, 0, true).rule(2, 0, 1, 0, true).rule(3, 0, 1, 0, true);
        x.run(4, -5);
    }

    private static void ruleWhoseFirstIsNoBatch() {
        check.part("promise 3: 'when a [..] is no batch'");
        Asked x = ofTwo();
        for (int kind = 0; kind <= 3; kind++) {
            for (int a : NO_BATCH_OF_TWO) {
                x.rule(kind, a, 1, 0, false).rule(kind, a, 0, 10, false).rule(kind, a, a, 0, false);
            }
        }
        x.run(0, 0).out(0, 0, 6, true).out(1, 0, 6, true).run(4, -1);
        // A batch that is told later is one from then on.
        made(1, 2).rule(2, 0, 0, 2, false).batch(0, 0, 1, 0).rule(2, 0, 0, 2, true);
    }

    private static void ruleWhoseSecondIsNoBatch() {
        check.part("promise 3: '(of kinds 0 and 1) b is no batch'");
        Asked x = ofTwo();
        for (int b : NO_BATCH_OF_TWO) {
            x.rule(0, 0, b, 0, false).rule(1, 0, b, 0, false).rule(0, 1, b, 10, false).rule(1, 1, b, 0, false);
        }
        x.run(0, 0).batch(0, 5, 1, 2).rule(0, 2, 1, 0, true).rule(1, 1, 2, 0, true).run(0, 0);
    }

    private static void ruleOfOneAndTheSame() {
        check.part("promise 3: 'both are one (0, 1)'");
        Asked x = made(3, 10);
        for (int i = 0; i < 4; i++) {
            x.batch(0, 2 * i, 1, i);
        }
        for (int i = 0; i < 4; i++) {
            x.rule(0, i, i, 0, false).rule(0, i, i, 10, false).rule(1, i, i, 0, false);
        }
        x.run(0, 0);
        // Of kinds 2 and 3 both may be one.
        for (int i = 0; i < 4; i++) {
            x.rule(2, i, i, 10, true).rule(3, i, i, 0, true);
        }
        x.run(0, 0);
    }

    private static void ruleOfOtherDays() {
        check.part("promise 3: 'days are not 0 to 10'");
        for (int kind : new int[] {0, 2, 3}) {
            Asked x = ofTwo();
            for (int days : NO_NUMBER) {
                x.rule(kind, 1, 0, days, false);
            }
            x.run(0, 0);
            for (int days = 0; days <= 10; days++) {
                ofTwo().rule(kind, 1, 0, days, true);
            }
        }
        // They may be more than the object's days.
        made(1, 1).batch(0, 0, 1, 0).rule(2, 0, 0, 10, true).run(0, 0).rule(3, 0, 0, 10, true).run(4, -2);
    }

    private static void ruleWhenThereAreEight() {
        check.part("promise 3: 'or there are 8'");
        for (int kind = 0; kind <= 3; kind++) {
            Asked x = ofTwo();
            for (int i = 0; i < 8; i++) {
                x.rule(3, 0, 0, 0, true);
                x.rule(4, 0, 1, 0, false);
            }
            // Each would move the second batch.
            x.rule(kind, 1, 0, kind == 2 ? 0 : 3, false).run(0, 0);
            x.rule(3, 0, 0, 0, false).out(0, 0, 6, true).out(1, 0, 6, true).run(4, -9);
        }
    }

    private static void ruleDoesNotLookAtB() {
        check.part("promise 3: 'Of kinds 2 and 3 b is not looked at'");
        for (int b : new int[] {-1, 0, 1, 2, 4, 100, MIN, MIN + 1, MAX - 1, MAX}) {
            made(1, 6).batch(0, 2, 1, 0).rule(2, 0, b, 2, true).run(4, 1).plan(0, 1);
            made(1, 6).batch(0, 2, 1, 0).rule(3, 0, b, 3, true).run(4, 1).plan(0, 3);
        }
    }

    private static void ruleDoesNotLookAtDays() {
        check.part("promise 3: 'of kind 1 days are not'");
        for (int days : new int[] {-1, 0, 1, 10, 11, 100, MIN, MIN + 1, MAX - 1, MAX}) {
            made(2, 6).batch(0, 0, 1, 0).batch(0, 5, 1, 1).rule(1, 0, 1, days, true)
                    .run(4, 1).plan(0, 0, 1, 5).cost(3);
        }
    }

    private static void freezeThatIsNew() {
        check.part("promise 4: 'whether that is new'");
        Asked x = made(1, 10);
        for (int i = 0; i < 4; i++) {
            x.batch(0, i, 1, i);
        }
        for (int i = 0; i < 4; i++) {
            x.freeze(i, true).freeze(i, false);
        }
        // Frozen once is frozen from then on: neither a run nor undo makes it new.
        x.run(4, 0).freeze(0, false).undo(true).freeze(0, false).freeze(3, false);
        // Nor does a batch that is refused to be frozen again become free.
        x.out(0, 0, 1, true).run(4, -1);
    }

    private static void freezeOfNone() {
        check.part("promise 4: 'False when there is none'");
        for (int batches = 0; batches <= 4; batches++) {
            Asked x = made(2, 10);
            for (int i = 0; i < batches; i++) {
                x.batch(0, i, 1, i);
            }
            for (int batch : new int[] {-1, batches, 4, 5, 100, MIN, MIN + 1, MAX - 1, MAX}) {
                x.freeze(batch, false);
            }
            // None of those that there are is frozen by it.
            x.out(0, 0, 10, true).run(4, batches);
        }
        // One that is told later is not frozen by a call that came before it.
        made(1, 2).freeze(0, false).batch(0, 0, 1, 0).late(0, 1, true).run(4, 1).plan(0, 1);
    }

    private static void outOfNoSuchTank() {
        check.part("promise 5: 'False, refused, when there is no such tank'");
        for (int tanks = 1; tanks <= 3; tanks++) {
            Asked x = made(tanks, 10).batch(tanks - 1, 0, 10, 0);
            for (int tank : new int[] {-1, tanks, tanks + 1, 4, 100, MIN, MIN + 1, MAX - 1, MAX}) {
                x.out(tank, 0, 10, false);
            }
            x.run(0, 0);
            for (int tank = 0; tank < tanks; tank++) {
                x.out(tank, 0, 1, true);
            }
            x.run(4, -1);
        }
    }

    private static void outOfOtherDays() {
        check.part("promise 5: 'not 0 <= from < to <= days'");
        for (int days = 1; days <= 10; days++) {
            for (int from = -2; from <= days + 2; from++) {
                for (int to = -2; to <= days + 2; to++) {
                    boolean right = 0 <= from && from < to && to <= days;
                    made(1, days).batch(0, 0, days, 0).out(0, from, to, right).run(4, right ? -1 : 0);
                }
            }
            made(1, days).batch(0, 0, days, 0).out(0, MIN, 1, false).out(0, 0, MAX, false)
                    .out(0, MIN, MAX, false).out(0, MAX, MIN, false).out(0, 0, MIN, false)
                    .out(0, MAX, 1, false).out(0, MIN, MIN, false).out(0, MAX, MAX, false)
                    .out(0, MAX - 1, MAX, false).out(0, MIN, MIN + 1, false).run(0, 0);
        }
    }

    private static void outWhenThereAreTwelve() {
        check.part("promise 5: 'or there are 12'");
        Asked x = made(3, 10).batch(2, 9, 1, 0);
        for (int i = 0; i < 12; i++) {
            x.out(i % 2, i % 3, 4 + i % 3, true).out(0, 3, 3, false).out(3, 0, 1, false);
        }
        x.out(2, 9, 10, false).out(2, 0, 10, false).out(0, 0, 1, false).out(3, 0, 1, false).run(0, 0);
        // One and the same twelve times are twelve.
        Asked y = made(1, 1);
        for (int i = 0; i < 12; i++) {
            y.out(0, 0, 1, true);
        }
        y.out(0, 0, 1, false);
    }

    private static void lateByItsStartInThePlan() {
        check.part("promise 6: 'its start in the plan and so many days more'");
        for (int start = 0; start < 10; start++) {
            for (int more = 0; more <= 10; more++) {
                int to = start + more;
                Asked x = made(1, 10).batch(0, start, 1, 0).late(0, more, true);
                x.run(4, more == 0 ? 0 : to > 9 ? -1 : 1).plan(0, to > 9 ? start : to);
                // Not a day later: the day itself is enough.
                x.rule(2, 0, 0, Math.min(to + 1, 10), true).run(4, to > 9 ? -2 : 0);
            }
        }
        // In the plan that stands then: after a run from where that has put it, and anew each time.
        made(1, 10).batch(0, 0, 1, 0).late(0, 4, true).run(4, 1).late(0, 4, true).run(4, 1).plan(0, 8)
                .undo(true).plan(0, 4).late(0, 0, true).run(4, 0).plan(0, 4)
                .late(0, 5, true).late(0, 1, true).run(4, 1).plan(0, 5);
    }

    private static void lateByOtherNumbers() {
        check.part("promise 6: '(0 to 10)', 'False, refused, [..] for another number'");
        Asked x = made(1, 10).batch(0, 0, 1, 0).late(0, 2, true);
        for (int days : NO_NUMBER) {
            x.late(0, days, false);
        }
        x.run(4, 1).plan(0, 2);
        for (int days = 0; days <= 10; days++) {
            x.late(0, days, true);
        }
        x.run(4, -1).late(0, 0, true).run(4, 0);
    }

    private static void lateOfNoSuchBatch() {
        check.part("promise 6: 'False, refused, when there is no such batch'");
        for (int batches = 0; batches <= 4; batches++) {
            Asked x = made(1, 4);
            for (int i = 0; i < batches; i++) {
                x.batch(0, i, 1, i);
            }
            for (int batch : new int[] {-1, batches, 4, 5, 100, MIN, MIN + 1, MAX - 1, MAX}) {
                x.late(batch, 10, false).late(batch, 0, false).late(batch, 11, false);
            }
            x.run(0, 0);
            for (int i = 0; i < batches; i++) {
                x.late(i, 0, true);
            }
        }
        made(1, 2).late(0, 1, false).batch(0, 0, 1, 0).run(0, 0);
    }
}
