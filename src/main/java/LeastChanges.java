import java.util.Arrays;

/**
 * A plan of batches in tanks that is changed as little as can be when something comes between.
 *
 * A place is one number, tank * 10 + start, so that places stand in the order of the document (by
 * tank, then by start) and a set of places is the bits of one int.
 */
public final class LeastChanges {
    public static final int NONE = -1;
    public static final int FULL = -2;
    public static final int SPENT = -100;

    private static final int REFUSED = -200;
    private static final int NO_PLAN_BOUND = 5;

    private static final int MAX_TANKS = 3;
    private static final int MAX_DAYS = 10;
    private static final int LAST_DAY = MAX_DAYS - 1;
    private static final int MAX_BATCHES = 4;
    private static final int MAX_RULES = 8;
    private static final int MAX_OUTS = 12;
    private static final int MAX_UNDOS = 16;
    private static final int MAX_COPIES = 8;
    private static final int MAX_NUMBER = 10;

    private static final int BEHIND = 0;
    private static final int APART = 1;
    private static final int ENDS_BY = 2;
    private static final int STARTS_FROM = 3;

    private final int tanks;
    private final int days;
    private final Batches batches = new Batches();
    private final Rules rules = new Rules();
    private final Search search = new Search();
    private final Shelf before = new Shelf(MAX_UNDOS);
    private final Shelf copies = new Shelf(MAX_COPIES);
    private int outs;
    private int shutDays;
    private int changedSet;
    private int leastChanged;
    private long lastCost;

    public LeastChanges(int tanks, int days) {
        this.tanks = Math.max(1, Math.min(tanks, MAX_TANKS));
        this.days = Math.max(1, Math.min(days, MAX_DAYS));
    }

    public int batch(int tank, int start, int length) {
        if (!isTank(tank) || !isWithinDays(start, length)) {
            return NONE;
        }
        return batches.isFull() ? FULL : batches.add(tank * MAX_DAYS + start, length);
    }

    public boolean rule(int kind, int a, int b, int days) {
        if (!isRule(kind, a, b, days) || rules.isFull()) {
            return false;
        }
        rules.add(kind, a, b, days);
        return true;
    }

    public boolean freeze(int batch) {
        if (!batches.has(batch) || batches.frozen[batch]) {
            return false;
        }
        batches.frozen[batch] = true;
        return true;
    }

    public boolean out(int tank, int from, int to) {
        if (!isTank(tank) || from < 0 || from >= to || to > days || outs >= MAX_OUTS) {
            return false;
        }
        outs++;
        shutDays |= daysFromTo(from, to - 1) << (tank * MAX_DAYS);
        return true;
    }

    public boolean late(int batch, int days) {
        if (!batches.has(batch) || !isNumber(days)) {
            return false;
        }
        batches.earliest[batch] = startOfPlace(batches.places[batch]) + days;
        return true;
    }

    public int run(long nodes) {
        if (nodes < 0 || nodes > MAX_BATCHES) {
            return REFUSED;
        }
        search.load(batches, tanks, days, shutDays);
        search.take(rules, NONE);
        if (!search.findsAny()) {
            leastChanged = NO_PLAN_BOUND;
            return -1 - firstBar();
        }
        int allowed = (int) nodes;
        if (!search.findsBest(allowed)) {
            leastChanged = allowed + 1;
            return SPENT;
        }
        adoptFound();
        return leastChanged;
    }

    public int tankOf(int batch) {
        return batches.has(batch) ? tankOfPlace(batches.places[batch]) : NONE;
    }

    public int start(int batch) {
        return batches.has(batch) ? startOfPlace(batches.places[batch]) : NONE;
    }

    public int changed(int k) {
        return memberAt(changedSet, k);
    }

    public int bound() {
        return leastChanged;
    }

    public boolean undo() {
        if (before.isEmpty()) {
            return false;
        }
        before.takeNewestInto(batches);
        return true;
    }

    public int copy() {
        return copies.isFull() ? FULL : copies.put(batches);
    }

    public int compare(int copy, int k) {
        return copies.has(copy) ? memberAt(copies.otherPlaces(copy, batches), k) : NONE;
    }

    public long cost() {
        return lastCost;
    }

    private boolean isTank(int tank) {
        return tank >= 0 && tank < tanks;
    }

    /** Asks for the days that are left rather than for the end, which could be beyond an int. */
    private boolean isWithinDays(int start, int length) {
        return start >= 0 && start < days && length >= 1 && length <= days - start;
    }

    private boolean isRule(int kind, int a, int b, int number) {
        if (kind < BEHIND || kind > STARTS_FROM || !batches.has(a)) {
            return false;
        }
        boolean ofTwo = kind == BEHIND || kind == APART;
        if (ofTwo && (!batches.has(b) || a == b)) {
            return false;
        }
        return kind == APART || isNumber(number);
    }

    private static boolean isNumber(int number) {
        return number >= 0 && number <= MAX_NUMBER;
    }

    /** The first rule without which there is a good plan, or the number of all rules. */
    private int firstBar() {
        for (int rule = 0; rule < rules.count; rule++) {
            search.take(rules, rule);
            if (search.findsAny()) {
                return rule;
            }
        }
        return rules.count;
    }

    private void adoptFound() {
        if (before.isFull()) {
            before.dropOldest();
        }
        int number = before.put(batches);
        batches.setPlaces(search.best);
        changedSet = before.otherPlaces(number, batches);
        leastChanged = search.bestChanges();
        lastCost = search.bestCost();
    }

    /** The member of a set of batches that has k smaller ones in it. */
    private static int memberAt(int set, int k) {
        int seen = 0;
        for (int batch = 0; batch < MAX_BATCHES; batch++) {
            if ((set >> batch & 1) != 0) {
                if (seen == k) {
                    return batch;
                }
                seen++;
            }
        }
        return NONE;
    }

    private static int tankOfPlace(int place) {
        return place / MAX_DAYS;
    }

    private static int startOfPlace(int place) {
        return place % MAX_DAYS;
    }

    /** The days of one tank from the first to the last as bits, without those that no tank has. */
    private static int daysFromTo(int first, int last) {
        int low = Math.max(first, 0);
        int high = Math.min(last, LAST_DAY);
        return low > high ? 0 : (1 << (high + 1)) - (1 << low);
    }

    /** The batches, and the plan that stands. */
    private static final class Batches {
        final int[] lengths = new int[MAX_BATCHES];
        final int[] places = new int[MAX_BATCHES];
        final int[] earliest = new int[MAX_BATCHES];
        final boolean[] frozen = new boolean[MAX_BATCHES];
        int count;

        boolean isFull() {
            return count >= MAX_BATCHES;
        }

        boolean has(int number) {
            return number >= 0 && number < count;
        }

        int add(int place, int length) {
            lengths[count] = length;
            places[count] = place;
            count++;
            return count - 1;
        }

        void setPlaces(int[] found) {
            System.arraycopy(found, 0, places, 0, count);
        }
    }

    /** The rules, as they were given. */
    private static final class Rules {
        final int[] kinds = new int[MAX_RULES];
        final int[] firsts = new int[MAX_RULES];
        final int[] seconds = new int[MAX_RULES];
        final int[] numbers = new int[MAX_RULES];
        int count;

        boolean isFull() {
            return count >= MAX_RULES;
        }

        void add(int kind, int a, int b, int number) {
            kinds[count] = kind;
            firsts[count] = a;
            seconds[count] = b;
            numbers[count] = number;
            count++;
        }
    }

    /** Plans that were laid by, the oldest first, each with the batches that there were then. */
    private static final class Shelf {
        private final int room;
        private final int[] sizes;
        private final int[] places;
        private int count;

        Shelf(int room) {
            this.room = Math.max(room, 1);
            this.sizes = new int[this.room];
            this.places = new int[this.room * MAX_BATCHES];
        }

        boolean isEmpty() {
            return count == 0;
        }

        boolean isFull() {
            return count >= room;
        }

        boolean has(int number) {
            return number >= 0 && number < count;
        }

        int put(Batches batches) {
            sizes[count] = batches.count;
            System.arraycopy(batches.places, 0, places, count * MAX_BATCHES, batches.count);
            count++;
            return count - 1;
        }

        void dropOldest() {
            count--;
            System.arraycopy(sizes, 1, sizes, 0, count);
            System.arraycopy(places, MAX_BATCHES, places, 0, count * MAX_BATCHES);
        }

        /** Batches that came after the plan was laid by stay where they are. */
        void takeNewestInto(Batches batches) {
            count--;
            System.arraycopy(places, count * MAX_BATCHES, batches.places, 0, sizes[count]);
        }

        /** The batches that have another place now, or had none then, as bits. */
        int otherPlaces(int number, Batches now) {
            int set = 0;
            for (int batch = 0; batch < now.count; batch++) {
                boolean known = batch < sizes[number];
                if (!known || places[number * MAX_BATCHES + batch] != now.places[batch]) {
                    set |= 1 << batch;
                }
            }
            return set;
        }
    }

    /**
     * Looks for good plans, batch by batch. All that a good plan asks concerns one batch or two: so
     * each batch has a set of open places, and a batch that is put closes places of those behind it.
     */
    private static final class Search {
        private static final int PLACES = MAX_TANKS * MAX_DAYS;
        private static final int ALL_DAYS = (1 << MAX_DAYS) - 1;
        private static final int IN_EVERY_TANK = 1 | 1 << MAX_DAYS | 1 << (2 * MAX_DAYS);
        /** So far before the end of another batch that every start is behind it. */
        private static final int NO_LAG = -MAX_DAYS;
        private static final int OTHER_TANK = 3;
        /** A change weighs more than four batches can cost, so that less weight is better. */
        private static final int CHANGE = 64;

        final int[] best = new int[MAX_BATCHES];
        private final int[] lengths = new int[MAX_BATCHES];
        private final int[] homes = new int[MAX_BATCHES];
        private final int[] free = new int[MAX_BATCHES];
        private final int[] lags = new int[MAX_BATCHES * MAX_BATCHES];
        private final int[] apart = new int[MAX_BATCHES];
        /** A row for each batch that is to be put, with the places of all: row 0 before any is put. */
        private final int[] open = new int[MAX_BATCHES * MAX_BATCHES];
        private final int[] tried = new int[MAX_BATCHES];
        private int count;
        private int bestWeight;

        int bestChanges() {
            return bestWeight / CHANGE;
        }

        int bestCost() {
            return bestWeight % CHANGE;
        }

        /** Takes over all but the rules. */
        void load(Batches batches, int tanks, int days, int shutDays) {
            count = batches.count;
            for (int batch = 0; batch < count; batch++) {
                int length = batches.lengths[batch];
                int starts = daysFromTo(batches.earliest[batch], days - length);
                int places = freePlaces(starts, length, tanks, shutDays);
                int home = batches.places[batch];
                lengths[batch] = length;
                homes[batch] = home;
                free[batch] = batches.frozen[batch] ? places & 1 << home : places;
            }
        }

        private static int freePlaces(int starts, int length, int tanks, int shutDays) {
            int needed = daysFromTo(0, length - 1);
            int places = 0;
            for (int place = 0; place < tanks * MAX_DAYS; place++) {
                boolean starting = (starts >> startOfPlace(place) & 1) != 0;
                if (starting && (shutDays >> place & needed) == 0) {
                    places |= 1 << place;
                }
            }
            return places;
        }

        /** Takes over the rules but one; with NONE, all of them. */
        void take(Rules rules, int without) {
            Arrays.fill(lags, NO_LAG);
            Arrays.fill(apart, 0);
            System.arraycopy(free, 0, open, 0, count);
            for (int rule = 0; rule < rules.count; rule++) {
                if (rule != without) {
                    takeOne(rules.kinds[rule], rules.firsts[rule], rules.seconds[rule], rules.numbers[rule]);
                }
            }
            for (int round = 0; round < MAX_DAYS; round++) {
                closeByLags();
            }
        }

        private void takeOne(int kind, int a, int b, int number) {
            if (kind == BEHIND) {
                int pair = a * MAX_BATCHES + b;
                lags[pair] = Math.max(lags[pair], number);
            } else if (kind == APART) {
                apart[a] |= 1 << b;
                apart[b] |= 1 << a;
            } else if (kind == ENDS_BY) {
                open[a] &= inEveryTank(daysFromTo(0, number - lengths[a]));
            } else if (kind == STARTS_FROM) {
                open[a] &= inEveryTank(daysFromTo(number, LAST_DAY));
            }
        }

        /**
         * Closes starts that leave a batch no start behind another. Without it two batches that can't
         * follow each other would be tried again in every place of the batches before them.
         */
        private void closeByLags() {
            for (int a = 0; a < count; a++) {
                for (int b = 0; b < count; b++) {
                    int lag = lags[a * MAX_BATCHES + b];
                    if (lag != NO_LAG) {
                        int behind = lengths[b] + lag;
                        open[a] &= inEveryTank(daysFromTo(firstStart(open[b]) + behind, LAST_DAY));
                        open[b] &= inEveryTank(daysFromTo(0, lastStart(open[a]) - behind));
                    }
                }
            }
        }

        /** Behind all days if no place is open. */
        private static int firstStart(int places) {
            return Integer.numberOfTrailingZeros(startsIn(places));
        }

        /** Before all days if no place is open. */
        private static int lastStart(int places) {
            return 31 - Integer.numberOfLeadingZeros(startsIn(places));
        }

        private static int startsIn(int places) {
            return (places | places >> MAX_DAYS | places >> (2 * MAX_DAYS)) & ALL_DAYS;
        }

        boolean findsAny() {
            return canPutFrom(0);
        }

        /** Looks with no change, then with one more each time: few changes are soon looked through. */
        boolean findsBest(int allowed) {
            for (int changes = 0; changes <= allowed; changes++) {
                int tooMuch = (changes + 1) * CHANGE;
                bestWeight = tooMuch;
                putBetter(0, 0);
                if (bestWeight < tooMuch) {
                    return true;
                }
            }
            return false;
        }

        private boolean canPutFrom(int batch) {
            if (batch >= count) {
                return true;
            }
            int choices = open[batch * MAX_BATCHES + batch];
            for (int place = 0; place < PLACES; place++) {
                boolean chosen = (choices >> place & 1) != 0;
                if (chosen && leavesRoom(batch, place) && canPutFrom(batch + 1)) {
                    return true;
                }
            }
            return false;
        }

        /** Goes through the plans in the document's order: of those that weigh the same the first stays. */
        private void putBetter(int batch, int weight) {
            if (weight + leastWeightFrom(batch) >= bestWeight) {
                return;
            }
            if (batch >= count) {
                bestWeight = weight;
                System.arraycopy(tried, 0, best, 0, count);
                return;
            }
            int choices = open[batch * MAX_BATCHES + batch];
            for (int place = 0; place < PLACES; place++) {
                if ((choices >> place & 1) != 0) {
                    int sum = weight + weightAt(batch, place);
                    if (sum < bestWeight && leavesRoom(batch, place)) {
                        tried[batch] = place;
                        putBetter(batch + 1, sum);
                    }
                }
            }
        }

        /** Batches whose place in the plan is closed must be changed: that cuts the search short. */
        private int leastWeightFrom(int batch) {
            int weight = 0;
            for (int other = batch; other < count; other++) {
                if ((open[batch * MAX_BATCHES + other] >> homes[other] & 1) == 0) {
                    weight += CHANGE + 1;
                }
            }
            return weight;
        }

        private int weightAt(int batch, int place) {
            int home = homes[batch];
            if (place == home) {
                return 0;
            }
            int between = Math.abs(startOfPlace(place) - startOfPlace(home));
            return CHANGE + between + (tankOfPlace(place) == tankOfPlace(home) ? 0 : OTHER_TANK);
        }

        /** Closes, for the next level, what a batch in its place bars; false if a batch has none left. */
        private boolean leavesRoom(int batch, int place) {
            int row = batch * MAX_BATCHES;
            for (int other = batch + 1; other < count; other++) {
                int left = open[row + other] & openBeside(batch, place, other);
                if (left == 0) {
                    return false;
                }
                open[row + MAX_BATCHES + other] = left;
            }
            return true;
        }

        private int openBeside(int batch, int place, int other) {
            int start = startOfPlace(place);
            int end = start + lengths[batch];
            int first = end + lags[other * MAX_BATCHES + batch];
            int last = start - lags[batch * MAX_BATCHES + other] - lengths[other];
            boolean mayShare = (apart[batch] >> other & 1) == 0;
            int taken = mayShare ? daysFromTo(start - lengths[other] + 1, end - 1) : ALL_DAYS;
            return inEveryTank(daysFromTo(first, last)) & ~(taken << (tankOfPlace(place) * MAX_DAYS));
        }

        private static int inEveryTank(int starts) {
            return starts * IN_EVERY_TANK;
        }
    }
}
