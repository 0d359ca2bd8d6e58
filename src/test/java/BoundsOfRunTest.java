/** A test for each sentence of the promises 7, 10, 11 and 15 that names a boundary, by its words. */
public final class BoundsOfRunTest {
    private static final Check check = new Check("BoundsOfRunTest");
    private static final int SPENT = Asked.SPENT;
    private static final long[] OTHER_NUMBERS = {
        -1, -2, -4, 5, 6, 100, -100, -200, Asked.MIN, Asked.MAX, Long.MIN_VALUE, Long.MIN_VALUE + 1,
        Long.MAX_VALUE, Long.MAX_VALUE - 1, 1L << 31, 1L << 32, (1L << 32) + 1, (1L << 32) + 4, -(1L << 32),
        4 - (1L << 32), 1L << 63 | 1, 256, 257, 65536, 65540,
    };

    public static void main(String[] args) {
        changedInAtMostSoMany();
        isThePlanFromNowOn();
        noGoodPlanAtAll();
        noGoodPlanThatLeavesFrozenBatches();
        theFirstRuleWithoutWhichThereIsOne();
        theFirstOfSeveralSuchRules();
        aRuleThatBarsWithOthersOnly();
        theNumberOfAllRules();
        spentWithinFewer();
        spentAndThePlanStays();
        noneMeansRule0();
        refusedNumbers();
        withoutBatches();
        upTo512Calls();
        changedByNumbers();
        changedNone();
        changedByTheLastRunThatFoundAPlan();
        bound0Before();
        boundAsManyAsItTold();
        boundOneMoreThanAllowed();
        bound5WhenNoGoodPlan();
        boundOfARunThatWasNotRefused();
        cost0Before();
        costOfTheLastRunThatFoundAPlan();
        costAtItsMost();
        check.end();
    }

    private static Asked made(int tanks, int days) {
        return new Asked(check, tanks, days);
    }

    /** Four batches in the first tank of two; the first ones of them, so many, must go by a day. */
    private static Asked mustChange(int changes) {
        Asked x = made(2, 8);
        for (int i = 0; i < 4; i++) {
            x.batch(0, 2 * i, 1, i);
        }
        for (int i = 0; i < changes; i++) {
            x.late(i, 1, true);
        }
        return x;
    }

    private static int startAfter(int batch, int changes) {
        return 2 * batch + (batch < changes ? 1 : 0);
    }

    private static Asked planAfter(Asked x, int changes) {
        return x.plan(0, startAfter(0, changes), 0, startAfter(1, changes),
                0, startAfter(2, changes), 0, startAfter(3, changes));
    }

    private static void changedInAtMostSoMany() {
        check.part("promise 7: 'changed in at most so many batches: how many it is changed in'");
        for (int changes = 0; changes <= 4; changes++) {
            for (int allowed = 0; allowed <= 4; allowed++) {
                Asked x = mustChange(changes).run(allowed, changes <= allowed ? changes : SPENT);
                planAfter(x, changes <= allowed ? changes : 0);
            }
        }
        // More may be allowed than there are batches.
        made(1, 2).batch(0, 0, 1, 0).late(0, 1, true).run(4, 1);
        // What may be changed need not be.
        made(1, 4).batch(0, 0, 1, 0).batch(0, 2, 1, 1).run(4, 0).plan(0, 0, 0, 2);
    }

    private static void isThePlanFromNowOn() {
        check.part("promise 7: 'it is the plan from now on'");
        planAfter(mustChange(3).run(4, 3), 3).run(0, 0).cost(0);
        planAfter(mustChange(4).run(4, 4), 4).copy(0).compare(0);
    }

    private static void noGoodPlanAtAll() {
        check.part("promise 7: 'When there is no good plan at all'");
        for (int allowed = 0; allowed <= 4; allowed++) {
            // Also when there would be none within so many: that there is none at all goes first.
            made(1, 3).batch(0, 0, 2, 0).batch(0, 1, 2, 1).run(allowed, -1).plan(0, 0, 0, 1);
            made(1, 4).batch(0, 0, 2, 0).batch(0, 1, 2, 1).run(allowed, allowed == 0 ? SPENT : 1);
        }
    }

    private static void noGoodPlanThatLeavesFrozenBatches() {
        check.part("promise 7: 'no good plan at all that leaves frozen batches'");
        made(1, 4).batch(0, 1, 2, 0).batch(0, 1, 2, 1).run(4, 2).plan(0, 0, 0, 2);
        made(1, 4).batch(0, 1, 2, 0).batch(0, 1, 2, 1).freeze(0, true).run(4, -1);
        made(1, 4).batch(0, 1, 2, 0).batch(0, 1, 2, 1).freeze(1, true).run(4, -1);
        // They are left also in the plans without a rule: here no rule is the one that bars.
        made(1, 4).batch(0, 1, 2, 0).batch(0, 1, 2, 1).freeze(0, true).rule(2, 1, 0, 4, true).run(4, -2);
        // And here it is the rule of the frozen batch alone.
        made(1, 4).batch(0, 1, 2, 0).freeze(0, true).rule(2, 0, 0, 3, true).rule(3, 0, 0, 2, true).run(4, -2);
        made(1, 4).batch(0, 1, 2, 0).rule(2, 0, 0, 3, true).rule(3, 0, 0, 2, true).run(4, -1);
    }

    private static void theFirstRuleWithoutWhichThereIsOne() {
        check.part("promise 7: '-1 minus the number of the first rule without which there is one (0 .. 7)'");
        for (int barring = 0; barring < 8; barring++) {
            Asked x = made(1, 10).batch(0, 0, 1, 0).batch(0, 5, 1, 1);
            for (int rule = 0; rule < 8; rule++) {
                // The others are of all kinds and can be kept.
                if (rule == barring) {
                    x.rule(3, 0, 0, 10, true);
                } else {
                    x.rule(rule % 4 == 1 ? 3 : rule % 4, 1, 0, rule % 4 == 2 ? 10 : 1, true);
                }
            }
            x.run(4, -1 - barring).run(0, -1 - barring).plan(0, 0, 0, 5).bound(5);
        }
        // Of each kind one that bars.
        made(1, 2).batch(0, 0, 1, 0).batch(0, 1, 1, 1).rule(0, 1, 0, 1, true).run(4, -1);
        made(1, 2).batch(0, 0, 1, 0).batch(0, 1, 1, 1).rule(1, 1, 0, 1, true).run(4, -1);
        made(1, 2).batch(0, 0, 1, 0).batch(0, 1, 1, 1).rule(2, 1, 0, 0, true).run(4, -1);
        made(1, 2).batch(0, 0, 1, 0).batch(0, 1, 1, 1).rule(3, 1, 0, 2, true).run(4, -1);
    }

    private static void theFirstOfSeveralSuchRules() {
        check.part("promise 7: 'the first rule'");
        for (int first = 0; first < 7; first++) {
            for (int second = first + 1; second < 8; second++) {
                // Only both together bar, so that there is a plan without either.
                Asked x = made(1, 10).batch(0, 4, 1, 0);
                for (int rule = 0; rule < 8; rule++) {
                    boolean ends = rule == second;
                    x.rule(ends ? 2 : 3, 0, 0, ends ? 5 : rule == first ? 5 : 0, true);
                }
                x.run(4, -1 - first);
            }
        }
    }

    private static void aRuleThatBarsWithOthersOnly() {
        check.part("promise 7: 'without which there is one', with all the others");
        // Each of the rules 0 and 1 bars by itself: without either the other one bars still.
        made(1, 4).batch(0, 0, 1, 0).rule(3, 0, 0, 4, true).rule(3, 0, 0, 4, true).run(4, -3);
        made(1, 4).batch(0, 0, 1, 0).rule(3, 0, 0, 4, true).rule(2, 0, 0, 0, true).run(4, -3);
        // Rule 0 is broken by the plan that stands, but it is rule 1 without which there is one.
        made(1, 4).batch(0, 0, 1, 0).rule(3, 0, 0, 1, true).rule(3, 0, 0, 4, true).run(4, -2);
    }

    private static void theNumberOfAllRules() {
        check.part("promise 7: 'or minus the number of all rules when there is none such'");
        Asked x = made(1, 1).batch(0, 0, 1, 0).out(0, 0, 1, true);
        for (int rules = 0; rules <= 8; rules++) {
            x.run(4, -1 - rules).run(0, -1 - rules);
            x.rule(3, 0, 0, 0, rules < 8);
        }
        x.run(4, -9);
    }

    private static void spentWithinFewer() {
        check.part("promise 7: 'SPENT when there is one, but not within so many'");
        for (int changes = 1; changes <= 4; changes++) {
            mustChange(changes).run(changes - 1, SPENT).run(changes, changes);
        }
        // A plan with fewer changes that changes a frozen batch is not one of them.
        made(1, 7).batch(0, 1, 1, 0).batch(0, 1, 2, 1).batch(0, 3, 3, 2).run(1, 1).plan(0, 0, 0, 1, 0, 3);
        made(1, 7).batch(0, 1, 1, 0).batch(0, 1, 2, 1).batch(0, 3, 3, 2).freeze(0, true)
                .run(1, SPENT).run(2, 2).plan(0, 1, 0, 2, 0, 4);
    }

    private static void spentAndThePlanStays() {
        check.part("promise 7: SPENT, 'the plan stays'");
        Asked x = mustChange(2).run(4, 2).late(2, 1, true).late(3, 1, true);
        planAfter(x.run(0, SPENT), 2).changed(0, 1).cost(2);
        planAfter(x.run(1, SPENT), 2).changed(0, 1).cost(2).bound(2);
        // It is none to undo either.
        planAfter(x.undo(true), 0).undo(false);
    }

    private static void noneMeansRule0() {
        check.part("promise 7: 'NONE means rule 0'");
        made(1, 1).batch(0, 0, 1, 0).rule(3, 0, 0, 1, true).rule(3, 0, 0, 0, true).run(4, Asked.NONE);
        // And there being no rules, that is the number of all of them.
        made(1, 1).batch(0, 0, 1, 0).batch(0, 0, 1, 1).run(4, Asked.NONE);
    }

    private static void refusedNumbers() {
        check.part("promise 7: 'refused is another number than 0 .. 4: -200'");
        for (long nodes : OTHER_NUMBERS) {
            // Before all runs, where a plan would be found, where one is, where none is, where it is spent.
            made(1, 1).run(nodes, Asked.REFUSED).bound(0).cost(0).changed().undo(false);
            Asked x = mustChange(2).run(nodes, Asked.REFUSED).bound(0).cost(0).changed();
            planAfter(x, 0).run(4, 2).run(nodes, Asked.REFUSED).bound(2).cost(2).changed(0, 1);
            planAfter(x, 2).late(3, 1, true).run(0, SPENT).run(nodes, Asked.REFUSED).bound(1).cost(2).changed(0, 1);
            x.out(0, 0, 8, true).out(1, 0, 8, true).run(4, -1).run(nodes, Asked.REFUSED).bound(5).cost(2);
            planAfter(x, 2);
            planAfter(x.undo(true), 0).undo(false);
        }
    }

    private static void withoutBatches() {
        check.part("promise 7: no batches");
        for (int allowed = 0; allowed <= 4; allowed++) {
            made(1, 1).out(0, 0, 1, true).run(allowed, 0).bound(0).cost(0).changed().plan().undo(true).undo(false);
        }
    }

    private static void upTo512Calls() {
        check.part("'used for at most 512 calls after it has been made'");
        Asked x = made(1, 10).batch(0, 0, 1, 0);
        for (int i = 0; i < 170; i++) {
            x.late(0, 1 + i % 9, true).run(1, 1).undo(true);
        }
        x.cost(1 + 169 % 9);
        // The last runs that fit, with all undos kept: the 512th call answers as the first did.
        Asked y = made(1, 10).batch(0, 0, 1, 0).late(0, 1, true).run(1, 1);
        for (int i = 0; i < 507; i++) {
            y.run(i % 5, 0);
        }
        y.undo(true).bound(0);
    }

    private static void changedByNumbers() {
        check.part("promise 10: 'Batch k, from 0, by numbers, of those that were changed'");
        for (int set = 0; set < 16; set++) {
            Asked x = mustChange(0);
            int[] members = new int[Integer.bitCount(set)];
            for (int i = 3, k = members.length; i >= 0; i--) {
                if ((set >> i & 1) != 0) {
                    members[--k] = i;
                    x.late(i, 1, true);
                }
            }
            x.run(4, members.length).changed(members);
        }
    }

    private static void changedNone() {
        check.part("promise 10: 'NONE'");
        mustChange(4).changed().run(3, SPENT).changed().run(5, Asked.REFUSED).changed();
        mustChange(4).run(4, 4).changed(0, 1, 2, 3).run(4, 0).changed();
        made(1, 1).batch(0, 0, 1, 0).batch(0, 0, 1, 1).run(4, -1).changed();
    }

    private static void changedByTheLastRunThatFoundAPlan() {
        check.part("promise 10: 'by the last run that found a plan'");
        Asked x = mustChange(2).run(4, 2).changed(0, 1).late(2, 1, true);
        x.run(0, SPENT).changed(0, 1).run(-1, Asked.REFUSED).changed(0, 1);
        x.rule(3, 0, 0, 10, true).run(4, -1).changed(0, 1);
        x.undo(true).changed(0, 1).undo(false).changed(0, 1).copy(0).changed(0, 1);
        mustChange(1).run(4, 1).changed(0).late(3, 1, true).run(4, 1).changed(3).undo(true).changed(3);
    }

    private static void bound0Before() {
        check.part("promise 11: '0 before'");
        made(2, 5).bound(0).batch(0, 0, 1, 0).bound(0).late(0, 5, true).bound(0).run(5, Asked.REFUSED).bound(0);
    }

    private static void boundAsManyAsItTold() {
        check.part("promise 11: 'as many as it told'");
        for (int changes = 0; changes <= 4; changes++) {
            mustChange(changes).run(4, changes).bound(changes).run(4, 0).bound(0);
        }
    }

    private static void boundOneMoreThanAllowed() {
        check.part("promise 11: 'one more than it was allowed when it was SPENT'");
        for (int changes = 1; changes <= 4; changes++) {
            for (int allowed = 0; allowed < changes; allowed++) {
                mustChange(changes).run(allowed, SPENT).bound(allowed + 1);
            }
        }
        mustChange(4).run(3, SPENT).bound(4).run(0, SPENT).bound(1);
    }

    private static void bound5WhenNoGoodPlan() {
        check.part("promise 11: '5 when there was no good plan'");
        for (int allowed = 0; allowed <= 4; allowed++) {
            made(1, 1).batch(0, 0, 1, 0).out(0, 0, 1, true).run(allowed, -1).bound(5);
            made(1, 1).batch(0, 0, 1, 0).rule(3, 0, 0, 1, true).run(allowed, -1).bound(5);
        }
    }

    private static void boundOfARunThatWasNotRefused() {
        check.part("promise 11: 'as the last run that was not refused has shown'");
        mustChange(2).run(4, 2).run(5, Asked.REFUSED).bound(2).run(Long.MIN_VALUE, Asked.REFUSED).bound(2)
                .undo(true).bound(2).undo(false).bound(2).copy(0).bound(2).late(0, 0, true).bound(2);
        mustChange(2).run(1, SPENT).run(-1, Asked.REFUSED).bound(2);
        made(1, 1).batch(0, 0, 1, 0).out(0, 0, 1, true).run(4, -1).run(9, Asked.REFUSED).bound(5);
    }

    private static void cost0Before() {
        check.part("promise 15: '0 before'");
        mustChange(4).cost(0).run(3, SPENT).cost(0).run(5, Asked.REFUSED).cost(0);
        made(1, 1).cost(0).batch(0, 0, 1, 0).out(0, 0, 1, true).run(4, -1).cost(0);
    }

    private static void costOfTheLastRunThatFoundAPlan() {
        check.part("promise 15: 'What the last run that found a plan cost'");
        Asked x = mustChange(3).run(4, 3).cost(3).late(3, 1, true).run(0, SPENT).cost(3).run(7, Asked.REFUSED).cost(3);
        x.undo(true).cost(3).undo(false).cost(3).copy(0).cost(3).rule(3, 0, 0, 10, true).run(4, -1).cost(3);
        mustChange(3).run(4, 3).cost(3).run(4, 0).cost(0);
        mustChange(1).run(4, 1).cost(1).late(1, 1, true).late(2, 1, true).run(4, 2).cost(2);
    }

    private static void costAtItsMost() {
        check.part("promise 15: the dearest runs");
        // One batch through all days, and into another tank.
        made(1, 10).batch(0, 0, 1, 0).late(0, 9, true).run(4, 1).cost(9);
        made(2, 10).batch(0, 0, 1, 0).late(0, 9, true).out(0, 0, 10, true).run(4, 1).cost(12);
        // Four batches: two tanks have their last days for two each.
        Asked x = made(3, 10);
        for (int i = 0; i < 4; i++) {
            x.batch(0, 0, 1, i).late(i, 8, true);
        }
        x.out(0, 0, 10, true).run(4, 4).cost(8 + 8 + 9 + 9 + 12).plan(1, 8, 1, 9, 2, 8, 2, 9);
    }
}
