/** A test for each sentence under 'Terms' that names a boundary; each part bears the sentence's words. */
public final class BoundsOfTermsTest {
    private static final Check check = new Check("BoundsOfTermsTest");

    public static void main(String[] args) {
        tanksFrom0();
        daysFrom0();
        batchesFrom0AtMost4();
        inTheTankFromItsStartOn();
        endIsBehindTheLastDay();
        earliestIs0AtFirst();
        rulesFrom0AtMost8();
        behindByAtLeast();
        behindIsNotBefore();
        notInOneTank();
        endAtMost();
        startAtLeast();
        outsAtMost12();
        outFromAndUpTo();
        goodIsWithinTheDays();
        goodHasNoTwoInOneTankOnOneDay();
        goodHasNoneThatStartsBeforeItsEarliest();
        goodKeepsAllRules();
        changedByTankOrStart();
        costOfDaysAndTank();
        frozenMayNotBeChanged();
        fewerBeforeCheaper();
        cheaperBeforeFirst();
        firstByTankThenStart();
        firstBatchAtWhichTheyDiffer();
        check.end();
    }

    private static Asked made(int tanks, int days) {
        return new Asked(check, tanks, days);
    }

    private static void tanksFrom0() {
        check.part("'TANKS are 0 .. tanks - 1'");
        for (int tanks = 1; tanks <= 3; tanks++) {
            made(tanks, 1).batch(-1, 0, 1, Asked.NONE).batch(tanks, 0, 1, Asked.NONE)
                    .batch(0, 0, 1, 0).batch(tanks - 1, 0, 1, 1);
            // As many batches as tanks fit on the only day: each tank is used, and none behind the last.
            Asked full = made(tanks, 1);
            for (int i = 0; i < tanks; i++) {
                full.batch(0, 0, 1, i);
            }
            full.run(4, tanks - 1);
            for (int i = 0; i < tanks; i++) {
                check.due("tankOf(" + i + ")", full.x.tankOf(i), i);
            }
            full.batch(0, 0, 1, tanks).run(4, -1);
        }
    }

    private static void daysFrom0() {
        check.part("'DAYS 0 .. days - 1'");
        for (int days = 1; days <= 10; days++) {
            made(1, days).batch(0, -1, 1, Asked.NONE).batch(0, days, 1, Asked.NONE)
                    .batch(0, 0, 1, 0).batch(0, days - 1, 1, 1);
            made(1, days).batch(0, 0, 1, 0).late(0, days - 1, true)
                    .run(4, days == 1 ? 0 : 1).plan(0, days - 1);
            made(1, days).batch(0, 0, 1, 0).late(0, days, true).run(4, -1).plan(0, 0);
            made(1, days).batch(0, days - 1, 1, 0).rule(2, 0, 0, 1, true)
                    .run(4, days == 1 ? 0 : 1).plan(0, 0);
        }
    }

    private static void batchesFrom0AtMost4() {
        check.part("'BATCHES are numbered from 0, at most 4'");
        made(1, 4).batch(0, 0, 1, 0).batch(0, 1, 1, 1).batch(0, 2, 1, 2).batch(0, 3, 1, 3)
                .batch(0, 0, 1, Asked.FULL).plan(0, 0, 0, 1, 0, 2, 0, 3).run(4, 0);
    }

    private static void inTheTankFromItsStartOn() {
        check.part("'in the tank on its start and as many days, with it, as its length says'");
        for (int length = 1; length <= 4; length++) {
            for (int day = 0; day < 10; day++) {
                boolean within = day >= 3 && day < 3 + length;
                made(2, 10).batch(0, 3, length, 0).out(0, day, day + 1, true).run(0, within ? Asked.SPENT : 0);
            }
        }
    }

    private static void endIsBehindTheLastDay() {
        check.part("'its END is the day behind the last one'");
        for (int length = 1; length <= 7; length++) {
            made(1, 10).batch(0, 3, length, 0).rule(2, 0, 0, 3 + length, true).run(0, 0);
            made(1, 10).batch(0, 3, length, 0).rule(2, 0, 0, 2 + length, true).run(0, Asked.SPENT);
        }
    }

    private static void earliestIs0AtFirst() {
        check.part("'An EARLIEST start is 0 at first'");
        for (int start = 0; start < 10; start++) {
            made(1, 10).batch(0, start, 1, 0).rule(2, 0, 0, 1, true).run(4, start == 0 ? 0 : 1).plan(0, 0);
        }
        // Of each batch: the others' lateness is not its own.
        Asked x = made(1, 4).batch(0, 3, 1, 0).late(0, 0, true).batch(0, 2, 1, 1).rule(2, 1, 0, 1, true);
        x.run(4, 1).plan(0, 3, 0, 0);
    }

    private static void rulesFrom0AtMost8() {
        check.part("'RULES are numbered from 0, at most 8'");
        for (int rules = 1; rules <= 8; rules++) {
            for (int barring = 0; barring < rules; barring++) {
                Asked x = made(1, 4).batch(0, 1, 2, 0);
                for (int rule = 0; rule < rules; rule++) {
                    x.rule(3, 0, 0, rule == barring ? 3 : 1, true);
                }
                x.run(4, -1 - barring);
            }
        }
        Asked x = made(1, 4).batch(0, 1, 2, 0);
        for (int rule = 0; rule < 8; rule++) {
            x.rule(3, 0, 0, 1, true);
        }
        x.rule(3, 0, 0, 3, false).run(4, 0);
    }

    private static void behindByAtLeast() {
        check.part("'kind 0: the start of a is at least d days behind the end of b'");
        for (int d = 0; d <= 7; d++) {
            for (int start = 0; start < 10; start++) {
                boolean kept = start >= 2 + d;
                Asked x = made(2, 10).batch(0, 0, 2, 0).batch(1, start, 1, 1).freeze(0, true);
                x.rule(0, 1, 0, d, true).run(4, kept ? 0 : 1).plan(0, 0, 1, kept ? start : 2 + d);
            }
        }
        for (int d = 8; d <= 10; d++) {
            made(2, 10).batch(0, 0, 2, 0).batch(1, 9, 1, 1).rule(0, 1, 0, d, true).run(4, -1);
        }
        // The length of b counts, and that of a does not but for the days.
        made(2, 10).batch(0, 0, 5, 0).batch(1, 5, 2, 1).rule(0, 1, 0, 0, true).run(0, 0);
        made(2, 10).batch(0, 0, 5, 0).batch(1, 8, 2, 1).rule(0, 1, 0, 3, true).run(0, 0);
        made(2, 10).batch(0, 0, 5, 0).batch(1, 8, 2, 1).rule(0, 1, 0, 4, true).run(4, -1);
    }

    private static void behindIsNotBefore() {
        check.part("'kind 0': far before is not behind");
        made(2, 10).batch(0, 5, 1, 0).batch(1, 0, 1, 1).rule(0, 1, 0, 0, true)
                .run(0, Asked.SPENT).run(1, 1).plan(0, 5, 1, 6);
        made(2, 10).batch(0, 9, 1, 0).batch(1, 0, 1, 1).rule(0, 1, 0, 0, true).run(1, Asked.SPENT).run(2, 2);
        made(2, 10).batch(0, 9, 1, 0).batch(1, 0, 1, 1).rule(0, 0, 1, 8, true).run(0, 0);
        made(2, 10).batch(0, 9, 1, 0).batch(1, 0, 1, 1).rule(0, 0, 1, 9, true).run(4, -1);
        // Each behind the other can't be.
        made(2, 10).batch(0, 0, 1, 0).batch(1, 5, 1, 1)
                .rule(0, 0, 1, 0, true).rule(0, 1, 0, 0, true).run(4, -1);
    }

    private static void notInOneTank() {
        check.part("'1: a and b are not in one tank'");
        // On no day in common, and next to each other: one tank is one tank.
        made(2, 10).batch(0, 0, 1, 0).batch(0, 9, 1, 1).rule(1, 0, 1, 0, true).run(0, Asked.SPENT);
        made(2, 10).batch(0, 0, 1, 0).batch(0, 9, 1, 1).rule(1, 1, 0, 0, true).run(0, Asked.SPENT);
        made(2, 10).batch(0, 0, 1, 0).batch(1, 0, 1, 1).rule(1, 0, 1, 0, true).run(0, 0);
        made(1, 10).batch(0, 0, 1, 0).batch(0, 9, 1, 1).rule(1, 0, 1, 0, true).run(4, -1);
        // Three that are all apart need three tanks; four have none.
        Asked x = made(3, 10).batch(0, 0, 1, 0).batch(0, 2, 1, 1).batch(0, 4, 1, 2).batch(0, 6, 1, 3);
        x.rule(1, 0, 1, 0, true).rule(1, 0, 2, 0, true).rule(1, 1, 2, 0, true);
        x.run(4, 2).plan(0, 0, 1, 2, 2, 4, 0, 6);
        x.rule(1, 0, 3, 0, true).rule(1, 1, 3, 0, true).run(4, 1).plan(0, 0, 1, 2, 2, 4, 2, 6);
        x.rule(1, 2, 3, 0, true).run(4, -1);
    }

    private static void endAtMost() {
        check.part("'2: the end of a is at most d'");
        for (int d = 0; d <= 10; d++) {
            for (int start = 0; start <= 7; start++) {
                boolean kept = start + 3 <= d;
                Asked x = made(1, 10).batch(0, start, 3, 0).rule(2, 0, 0, d, true);
                x.run(4, kept ? 0 : d < 3 ? -1 : 1).plan(0, kept || d < 3 ? start : d - 3);
            }
        }
        // Of a alone, and d may be behind all days.
        made(1, 4).batch(0, 0, 1, 0).batch(0, 3, 1, 1).rule(2, 0, 1, 1, true).rule(2, 1, 0, 10, true).run(0, 0);
    }

    private static void startAtLeast() {
        check.part("'3: the start of a is at least d'");
        for (int d = 0; d <= 10; d++) {
            for (int start = 0; start <= 7; start++) {
                boolean kept = start >= d;
                Asked x = made(1, 10).batch(0, start, 3, 0).rule(3, 0, 0, d, true);
                x.run(4, kept ? 0 : d > 7 ? -1 : 1).plan(0, kept || d > 7 ? start : d);
            }
        }
        made(1, 4).batch(0, 3, 1, 0).batch(0, 0, 1, 1).rule(3, 0, 1, 3, true).rule(3, 1, 0, 0, true).run(0, 0);
    }

    private static void outsAtMost12() {
        check.part("'OUTS, at most 12'");
        Asked x = made(2, 10).batch(1, 9, 1, 0);
        for (int i = 0; i < 11; i++) {
            x.out(0, 0, 1, true);
        }
        // The twelfth counts, and the thirteenth does not.
        x.run(0, 0).out(1, 9, 10, true).run(0, Asked.SPENT).run(1, 1).plan(1, 8);
        x.out(1, 8, 9, false).run(0, 0);
    }

    private static void outFromAndUpTo() {
        check.part("'on the days from one on, up to another one (not with it)'");
        for (int start = 0; start < 10; start++) {
            boolean shut = start >= 3 && start < 6;
            made(1, 10).batch(0, start, 1, 0).out(0, 3, 6, true).run(0, shut ? Asked.SPENT : 0);
            made(2, 10).batch(1, start, 1, 0).out(0, 3, 6, true).run(0, 0);
        }
        made(1, 10).batch(0, 0, 3, 0).batch(0, 6, 4, 1).out(0, 3, 6, true).run(0, 0);
        made(1, 10).batch(0, 0, 4, 0).out(0, 3, 6, true).run(0, Asked.SPENT);
        made(1, 10).batch(0, 5, 5, 0).out(0, 3, 6, true).run(4, -1);
        // From the first day on, and up to the last.
        made(1, 10).batch(0, 0, 1, 0).out(0, 0, 9, true).run(4, 1).plan(0, 9);
        made(1, 10).batch(0, 9, 1, 0).out(0, 1, 10, true).run(4, 1).plan(0, 0);
        made(1, 10).batch(0, 9, 1, 0).out(0, 0, 10, true).run(4, -1);
        made(3, 10).batch(2, 9, 1, 0).out(2, 0, 10, true).run(4, 1).plan(0, 9);
        // Days of two outs are shut like those of one.
        made(1, 10).batch(0, 3, 1, 0).out(0, 3, 5, true).out(0, 3, 5, true).run(4, 1).plan(0, 2);
        made(1, 10).batch(0, 3, 1, 0).out(0, 0, 5, true).out(0, 3, 9, true).run(4, 1).plan(0, 9);
    }

    private static void goodIsWithinTheDays() {
        check.part("'all batches are within the days'");
        for (int days = 1; days <= 10; days++) {
            for (int length = 1; length <= days; length++) {
                int last = days - length;
                made(1, days).batch(0, 0, length, 0).late(0, last, true)
                        .run(4, last == 0 ? 0 : 1).plan(0, last);
                made(1, days).batch(0, 0, length, 0).late(0, last + 1, true).run(4, -1).plan(0, 0);
            }
        }
    }

    private static void goodHasNoTwoInOneTankOnOneDay() {
        check.part("'no two are in one tank on one day'");
        for (int start = 0; start < 9; start++) {
            boolean together = start > 2 && start < 7;
            made(2, 10).batch(0, 4, 3, 0).batch(0, start, 2, 1).run(0, together ? Asked.SPENT : 0);
            made(2, 10).batch(0, start, 2, 0).batch(0, 4, 3, 1).run(0, together ? Asked.SPENT : 0);
            made(2, 10).batch(0, 4, 3, 0).batch(1, start, 2, 1).run(0, 0);
        }
        // Full to the last day: the tank has no room for one more.
        Asked x = made(1, 10).batch(0, 0, 4, 0).batch(0, 4, 3, 1).batch(0, 7, 3, 2);
        x.run(0, 0).batch(0, 0, 1, 3).run(4, -1);
    }

    private static void goodHasNoneThatStartsBeforeItsEarliest() {
        check.part("'none starts before its earliest start'");
        for (int more = 0; more <= 9; more++) {
            made(1, 10).batch(0, 0, 1, 0).late(0, more, true).run(4, more == 0 ? 0 : 1).plan(0, more)
                    .run(0, 0);
        }
    }

    private static void goodKeepsAllRules() {
        check.part("'all rules are kept'");
        // Each of the eight is broken in turn, and the plan with it is not good.
        for (int broken = 0; broken < 8; broken++) {
            Asked x = made(1, 10).batch(0, 5, 1, 0);
            for (int rule = 0; rule < 8; rule++) {
                x.rule(3, 0, 0, rule == broken ? 6 : 5, true);
            }
            x.run(0, Asked.SPENT).run(1, 1).plan(0, 6);
        }
        // Of two rules of one kind and the same batches both hold, whichever comes first.
        made(2, 10).batch(0, 0, 1, 0).batch(1, 0, 1, 1).freeze(0, true)
                .rule(0, 1, 0, 4, true).rule(0, 1, 0, 2, true).run(4, 1).plan(0, 0, 1, 5);
        made(2, 10).batch(0, 0, 1, 0).batch(1, 0, 1, 1).freeze(0, true)
                .rule(0, 1, 0, 2, true).rule(0, 1, 0, 4, true).run(4, 1).plan(0, 0, 1, 5);
        made(1, 10).batch(0, 9, 1, 0).rule(2, 0, 0, 4, true).rule(2, 0, 0, 6, true).run(4, 1).plan(0, 3);
        made(1, 10).batch(0, 9, 1, 0).rule(2, 0, 0, 6, true).rule(2, 0, 0, 4, true).run(4, 1).plan(0, 3);
        made(1, 10).batch(0, 0, 1, 0).rule(3, 0, 0, 4, true).rule(3, 0, 0, 2, true).run(4, 1).plan(0, 4);
        made(1, 10).batch(0, 0, 1, 0).rule(3, 0, 0, 2, true).rule(3, 0, 0, 4, true).run(4, 1).plan(0, 4);
        // The same rule twice is two rules: without one of them the other one bars still.
        made(1, 2).batch(0, 0, 1, 0).batch(0, 1, 1, 1)
                .rule(1, 0, 1, 0, true).rule(1, 1, 0, 0, true).run(4, -3);
    }

    private static void changedByTankOrStart() {
        check.part("'CHANGED in a batch whose tank or start is not that of the plan that stands'");
        made(2, 1).batch(0, 0, 1, 0).out(0, 0, 1, true).run(4, 1).plan(1, 0).changed(0);
        made(1, 2).batch(0, 0, 1, 0).out(0, 0, 1, true).run(4, 1).plan(0, 1).changed(0);
        made(2, 2).batch(0, 0, 1, 0).out(0, 0, 2, true).out(1, 0, 1, true).run(4, 1).plan(1, 1).changed(0);
        made(2, 2).batch(0, 0, 1, 0).run(4, 0).plan(0, 0).changed();
        // The plan that stands is the one of the last run, not the first one.
        made(1, 2).batch(0, 0, 1, 0).late(0, 1, true).run(4, 1).run(4, 0).plan(0, 1).changed();
    }

    private static void costOfDaysAndTank() {
        check.part("'the days between both starts, and 3 more when the tank is another one'");
        for (int from = 0; from < 10; from++) {
            for (int to = 0; to < 10; to++) {
                int days = Math.abs(to - from);
                made(1, 10).batch(0, from, 1, 0).rule(3, 0, 0, to, true).rule(2, 0, 0, to + 1, true)
                        .run(4, days == 0 ? 0 : 1).cost(days).plan(0, to);
                made(2, 10).batch(1, from, 1, 0).rule(3, 0, 0, to, true).rule(2, 0, 0, to + 1, true)
                        .out(1, 0, 10, true).run(4, 1).cost(days + 3).plan(0, to);
                // Two tanks away is another tank, once.
                made(3, 10).batch(0, from, 1, 0).rule(3, 0, 0, to, true).rule(2, 0, 0, to + 1, true)
                        .out(0, 0, 10, true).out(1, 0, 10, true).run(4, 1).cost(days + 3).plan(2, to);
            }
        }
    }

    private static void frozenMayNotBeChanged() {
        check.part("'FROZEN batches may not be changed'");
        made(3, 10).batch(0, 0, 1, 0).freeze(0, true).run(4, 0).plan(0, 0);
        made(3, 10).batch(0, 0, 1, 0).freeze(0, true).out(0, 0, 1, true).run(4, -1).plan(0, 0);
        made(3, 10).batch(0, 0, 1, 0).freeze(0, true).late(0, 1, true).run(4, -1).plan(0, 0);
        made(3, 10).batch(0, 0, 1, 0).freeze(0, true).rule(3, 0, 0, 1, true).run(4, -1).plan(0, 0);
        made(3, 10).batch(0, 0, 1, 0).batch(0, 0, 1, 1).freeze(0, true).freeze(1, true).run(4, -1);
        // One of two in one place is frozen: the other one goes.
        made(1, 10).batch(0, 0, 1, 0).batch(0, 0, 1, 1).freeze(0, true).run(4, 1).plan(0, 0, 0, 1);
        made(1, 10).batch(0, 0, 1, 0).batch(0, 0, 1, 1).freeze(1, true).run(4, 1).plan(0, 1, 0, 0);
    }

    private static void fewerBeforeCheaper() {
        check.part("'BETTER is a good plan with fewer changed batches'");
        // Two batches by a day each cost 2; one batch behind the other costs 8.
        made(1, 10).batch(0, 0, 4, 0).batch(0, 4, 4, 1).late(0, 1, true).run(4, 2).cost(2).plan(0, 1, 0, 5);
        made(1, 10).batch(0, 0, 2, 0).batch(0, 2, 6, 1).late(0, 1, true).run(4, 1).cost(8).plan(0, 8, 0, 2);
    }

    private static void cheaperBeforeFirst() {
        check.part("'of these, the one that costs less'");
        // Tank 0 is the first by order, but costs 3; a day, or two, in its own tank cost less.
        made(2, 10).batch(1, 0, 1, 0).out(1, 0, 1, true).run(4, 1).cost(1).plan(1, 1);
        made(2, 10).batch(1, 0, 1, 0).out(1, 0, 2, true).run(4, 1).cost(2).plan(1, 2);
        made(2, 10).batch(1, 0, 1, 0).out(1, 0, 4, true).run(4, 1).cost(3).plan(0, 0);
    }

    private static void firstByTankThenStart() {
        check.part("'whose tank, then whose start, is less'");
        // Three days in its own tank, or another tank: both cost 3.
        made(2, 10).batch(1, 0, 1, 0).out(1, 0, 3, true).run(4, 1).cost(3).plan(0, 0);
        made(2, 10).batch(0, 0, 1, 0).out(0, 0, 3, true).run(4, 1).cost(3).plan(0, 3);
        made(3, 10).batch(2, 0, 1, 0).out(2, 0, 10, true).run(4, 1).cost(3).plan(0, 0);
        made(1, 10).batch(0, 5, 1, 0).out(0, 5, 6, true).run(4, 1).cost(1).plan(0, 4);
    }

    private static void firstBatchAtWhichTheyDiffer() {
        check.part("'at the first batch at which they differ'");
        // Either one of two may go by one day; the first batch decides, though the second would be less.
        made(1, 10).batch(0, 5, 2, 0).batch(0, 6, 2, 1).run(4, 1).cost(1).plan(0, 4, 0, 6);
        made(1, 10).batch(0, 6, 2, 0).batch(0, 5, 2, 1).run(4, 1).cost(1).plan(0, 6, 0, 4);
        // The first two stay in all plans: the third decides.
        made(1, 10).batch(0, 0, 1, 0).batch(0, 2, 1, 1).batch(0, 6, 1, 2).batch(0, 6, 1, 3)
                .run(4, 1).plan(0, 0, 0, 2, 0, 5, 0, 6);
    }
}
