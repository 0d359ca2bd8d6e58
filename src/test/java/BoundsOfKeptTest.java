/** A test for each sentence of the promises 8, 9 and 12 to 14 that names a boundary, by its words. */
public final class BoundsOfKeptTest {
    private static final Check check = new Check("BoundsOfKeptTest");
    private static final int[] NO_COPY = {-1, -2, 8, 9, 100, Asked.MIN, Asked.MIN + 1, Asked.MAX - 1, Asked.MAX};

    public static void main(String[] args) {
        placesOfNone();
        noneToUndo();
        undoOfARunThatFoundNone();
        undoOfARunThatChangedNothing();
        undoneYetOrNot();
        atMost16AreKept();
        theOldestGo();
        theOldestGoWithTheirBatches();
        undoLeavesWhatIsNotThePlan();
        copiesFrom0();
        fullWhenThereAre8();
        aCopyStaysAsItWas();
        compareByNumbers();
        compareByTankOrDay();
        compareWithABatchThatTheCopyDoesNotHave();
        compareWithNoSuchCopy();
        compareTakesNothingAway();
        check.end();
    }

    private static Asked made(int tanks, int days) {
        return new Asked(check, tanks, days);
    }

    /** One batch in three tanks of ten days. */
    private static Asked ofOne() {
        return made(3, 10).batch(0, 0, 1, 0);
    }

    /** Makes the only batch late until a day, so that it goes there. */
    private static Asked moveTo(Asked x, int start) {
        return x.late(0, start - x.x.start(0), true).run(1, 1).places(0, start);
    }

    private static void placesOfNone() {
        check.part("promises 8 and 9: 'NONE'");
        Asked x = made(3, 10).plan();
        x.batch(2, 9, 1, 0).plan(2, 9).batch(3, 0, 1, Asked.NONE).plan(2, 9);
        x.batch(0, 0, 10, 1).plan(2, 9, 0, 0).batch(1, 5, 5, 2).plan(2, 9, 0, 0, 1, 5);
        x.batch(1, 0, 5, 3).plan(2, 9, 0, 0, 1, 5, 1, 0).batch(1, 0, 5, Asked.FULL).plan(2, 9, 0, 0, 1, 5, 1, 0);
    }

    private static void noneToUndo() {
        check.part("promise 12: 'False when there is none'");
        ofOne().undo(false).undo(false).plan(0, 0);
        Asked x = moveTo(ofOne(), 4).undo(true).plan(0, 0).undo(false).plan(0, 0).undo(false).plan(0, 0);
        moveTo(x, 7).undo(true).plan(0, 0).undo(false);
        made(1, 1).undo(false).plan();
    }

    private static void undoOfARunThatFoundNone() {
        check.part("promise 12: 'the last run that found one'");
        ofOne().late(0, 1, true).run(0, Asked.SPENT).undo(false);
        ofOne().late(0, 10, true).run(4, -1).undo(false);
        ofOne().run(5, Asked.REFUSED).run(-1, Asked.REFUSED).undo(false);
        Asked x = moveTo(ofOne(), 4).late(0, 1, true).run(0, Asked.SPENT).late(0, 10, true).run(4, -1)
                .run(5, Asked.REFUSED);
        x.undo(true).plan(0, 0).undo(false).plan(0, 0);
    }

    private static void undoOfARunThatChangedNothing() {
        check.part("promise 12: a run that found the plan that stands has found one");
        moveTo(ofOne(), 4).run(4, 0).run(0, 0).undo(true).plan(0, 4).undo(true).plan(0, 4)
                .undo(true).plan(0, 0).undo(false);
    }

    private static void undoneYetOrNot() {
        check.part("promise 12: 'and was not undone yet'");
        Asked x = moveTo(moveTo(moveTo(ofOne(), 1), 2), 3).undo(true).plan(0, 2).undo(true).plan(0, 1);
        // A new run is the last one then; those that were undone do not come back.
        moveTo(x, 9).undo(true).plan(0, 1).undo(true).plan(0, 0).undo(false).plan(0, 0);
    }

    /** Runs in which the batches of three tanks go by a day in turn: no two plans in a row are one. */
    private static Asked afterRuns(int runs) {
        Asked x = made(3, 10).batch(0, 0, 1, 0).batch(1, 0, 1, 1).batch(2, 0, 1, 2);
        for (int i = 0; i < runs; i++) {
            x.late(i % 3, 1, true).run(1, 1);
        }
        return planAfterRuns(x, runs);
    }

    private static Asked planAfterRuns(Asked x, int runs) {
        return x.places(0, (runs + 2) / 3, 1, (runs + 1) / 3, 2, runs / 3);
    }

    private static void atMost16AreKept() {
        check.part("promise 12: 'at most 16 are kept'");
        for (int runs = 0; runs <= 27; runs++) {
            Asked x = afterRuns(runs);
            int kept = Math.min(runs, 16);
            for (int i = 1; i <= kept; i++) {
                planAfterRuns(x.undo(true), runs - i);
            }
            planAfterRuns(x.undo(false), runs - kept);
        }
    }

    private static void theOldestGo() {
        check.part("promise 12: 'the oldest go'");
        // Full, emptied by some, and filled beyond again: always the newest sixteen.
        for (int undone = 1; undone <= 16; undone++) {
            Asked x = afterRuns(20);
            for (int i = 1; i <= undone; i++) {
                planAfterRuns(x.undo(true), 20 - i);
            }
            // These find the plan that stands.
            x.late(0, 0, true).late(1, 0, true).late(2, 0, true);
            for (int i = 0; i < 10; i++) {
                x.run(0, 0);
            }
            int left = Math.min(16 - undone, 6);
            for (int i = 0; i < 10; i++) {
                planAfterRuns(x.undo(true), 20 - undone);
            }
            for (int i = 1; i <= left; i++) {
                planAfterRuns(x.undo(true), 20 - undone - i);
            }
            planAfterRuns(x.undo(false), 20 - undone - left);
        }
    }

    /** A batch is told between the runs: each kept plan moves back the batches that there were then. */
    private static void theOldestGoWithTheirBatches() {
        check.part("promise 12: 'the oldest go', a batch told between");
        for (int before = 0; before <= 9; before++) {
            for (int behind = 0; behind <= 9; behind++) {
                Asked x = made(2, 10).batch(0, 0, 1, 0);
                for (int i = 0; i < before; i++) {
                    x.late(0, 1, true).run(1, 1);
                }
                x.batch(1, 0, 1, 1);
                for (int i = 0; i < behind; i++) {
                    x.late(1, 1, true).run(1, 1);
                }
                x.places(0, before, 1, behind);
                for (int i = 1; i <= behind; i++) {
                    x.undo(true).places(0, before, 1, behind - i);
                }
                int left = Math.min(before, 16 - behind);
                for (int i = 1; i <= left; i++) {
                    x.undo(true).places(0, before - i, 1, 0);
                }
                x.undo(false).places(0, before - left, 1, 0);
            }
        }
    }

    private static void undoLeavesWhatIsNotThePlan() {
        check.part("promise 12: 'The plan is what it was', and nothing else");
        Asked x = moveTo(ofOne(), 4).copy(0).freeze(0, true).rule(3, 0, 0, 3, true).out(1, 0, 10, true);
        x.undo(true).plan(0, 0).changed(0).bound(1).cost(4).compare(0, 0).copy(1);
        // It is late still, frozen still, and the rule is one still: without it there is none either.
        x.freeze(0, false).run(4, -2).late(0, 0, true).run(4, -1);
    }

    private static void copiesFrom0() {
        check.part("promise 13: 'its number, from 0'");
        Asked x = made(1, 1);
        for (int i = 0; i < 8; i++) {
            x.copy(i);
        }
    }

    private static void fullWhenThereAre8() {
        check.part("promise 13: 'FULL when there are 8'");
        Asked x = ofOne().copy(0);
        for (int i = 1; i < 8; i++) {
            moveTo(x, i).copy(i);
        }
        // The one that is refused takes the place of none, and none becomes free again.
        moveTo(x, 8).copy(Asked.FULL).copy(Asked.FULL).undo(true).plan(0, 7).copy(Asked.FULL);
        for (int copy = 0; copy < 7; copy++) {
            x.compare(copy, 0);
        }
        x.compare(7).compare(8);
    }

    private static void aCopyStaysAsItWas() {
        check.part("promise 13: 'A copy of the plan'");
        Asked x = ofOne().copy(0);
        moveTo(x, 3).copy(1).compare(0, 0).compare(1);
        moveTo(x, 5).compare(0, 0).compare(1, 0).undo(true).compare(0, 0).compare(1);
        x.undo(true).compare(0).compare(1, 0);
    }

    private static void compareByNumbers() {
        check.part("promise 14: 'Batch k, from 0, by numbers'");
        for (int set = 0; set < 16; set++) {
            Asked x = made(1, 8).batch(0, 0, 1, 0).batch(0, 2, 1, 1).batch(0, 4, 1, 2).batch(0, 6, 1, 3).copy(0);
            int[] members = new int[Integer.bitCount(set)];
            for (int i = 3, k = members.length; i >= 0; i--) {
                if ((set >> i & 1) != 0) {
                    members[--k] = i;
                    x.late(i, 1, true);
                }
            }
            x.run(4, members.length).compare(0, members).copy(1).compare(1).undo(true).compare(0).compare(1, members);
        }
    }

    private static void compareByTankOrDay() {
        check.part("promise 14: 'in another tank, or start on another day'");
        made(2, 1).batch(0, 0, 1, 0).copy(0).out(0, 0, 1, true).run(4, 1).plan(1, 0).compare(0, 0);
        made(1, 2).batch(0, 0, 1, 0).copy(0).out(0, 0, 1, true).run(4, 1).plan(0, 1).compare(0, 0);
        made(2, 2).batch(0, 0, 1, 0).copy(0).out(0, 0, 2, true).out(1, 0, 1, true).run(4, 1).plan(1, 1).compare(0, 0);
        // Back where it was by other runs: it is in no other tank and on no other day.
        Asked x = made(2, 4).batch(0, 0, 1, 0).copy(0).late(0, 1, true).run(4, 1).plan(0, 1).compare(0, 0);
        x.undo(true).compare(0).late(0, 0, true).run(4, 0).compare(0);
    }

    private static void compareWithABatchThatTheCopyDoesNotHave() {
        check.part("promise 14: '(a batch that the copy does not have is one)'");
        for (int had = 0; had <= 4; had++) {
            Asked x = made(1, 4);
            for (int i = 0; i < had; i++) {
                x.batch(0, i, 1, i);
            }
            x.copy(0);
            for (int i = had; i < 4; i++) {
                x.batch(0, i, 1, i);
            }
            int[] later = new int[4 - had];
            for (int i = had; i < 4; i++) {
                later[i - had] = i;
            }
            x.compare(0, later);
        }
        // Also one in the first tank from the first day on.
        made(1, 4).copy(0).compare(0).batch(0, 0, 1, 0).compare(0, 0).run(0, 0).compare(0, 0).undo(true).compare(0, 0);
    }

    private static void compareWithNoSuchCopy() {
        check.part("promise 14: 'NONE'");
        for (int copies = 0; copies <= 8; copies++) {
            Asked x = ofOne();
            for (int i = 0; i < copies; i++) {
                x.copy(i);
            }
            moveTo(x, 1).compare(copies);
            for (int copy : NO_COPY) {
                x.compare(copy);
            }
            for (int copy = 0; copy < copies; copy++) {
                x.compare(copy, 0);
            }
        }
    }

    private static void compareTakesNothingAway() {
        check.part("promise 14: asked twice it tells the same");
        Asked x = ofOne().copy(0);
        moveTo(x, 2).compare(0, 0).compare(0, 0).undo(true).compare(0).compare(0);
    }
}
