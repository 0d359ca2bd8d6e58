import java.util.ArrayList;
import java.util.List;

/**
 * The document once more, as literally as can be: it builds all plans in the document's order and
 * compares them. It shares no code and no way of working with the class that it checks.
 */
final class PlainModel {
    static final class Place {
        final int tank;
        final int start;

        Place(int tank, int start) {
            this.tank = tank;
            this.start = start;
        }

        boolean is(Place other) {
            return tank == other.tank && start == other.start;
        }
    }

    static final class Rule {
        final int kind;
        final int a;
        final int b;
        final int d;

        Rule(int kind, int a, int b, int d) {
            this.kind = kind;
            this.a = a;
            this.b = b;
            this.d = d;
        }
    }

    static final class Out {
        final int tank;
        final int from;
        final int to;

        Out(int tank, int from, int to) {
            this.tank = tank;
            this.from = from;
            this.to = to;
        }
    }

    final int tanks;
    final int days;
    List<Place> plan = new ArrayList<>();
    final List<Integer> lengths = new ArrayList<>();
    final List<Integer> earliest = new ArrayList<>();
    final List<Boolean> frozen = new ArrayList<>();
    final List<Rule> rules = new ArrayList<>();
    final List<Out> outs = new ArrayList<>();
    final List<List<Place>> history = new ArrayList<>();
    final List<List<Place>> copies = new ArrayList<>();
    List<Integer> lastChanged = new ArrayList<>();
    long lastCost = 0;
    int lastBound = 0;

    private List<Place> best;
    private int bestChanges;
    private int bestCost;

    PlainModel(int tanks, int days) {
        this.tanks = tanks < 1 ? 1 : tanks > 3 ? 3 : tanks;
        this.days = days < 1 ? 1 : days > 10 ? 10 : days;
    }

    int batch(int tank, int start, int length) {
        boolean wrong = tank < 0 || tank >= tanks || length < 1 || start < 0;
        if (wrong || (long) start + length > days) {
            return -1;
        }
        if (plan.size() == 4) {
            return -2;
        }
        plan.add(new Place(tank, start));
        lengths.add(length);
        earliest.add(0);
        frozen.add(false);
        return plan.size() - 1;
    }

    boolean rule(int kind, int a, int b, int d) {
        if (kind < 0 || kind > 3 || !isBatch(a) || rules.size() == 8) {
            return false;
        }
        if ((kind == 0 || kind == 1) && (!isBatch(b) || a == b)) {
            return false;
        }
        if (kind != 1 && (d < 0 || d > 10)) {
            return false;
        }
        rules.add(new Rule(kind, a, b, d));
        return true;
    }

    boolean freeze(int batch) {
        return isBatch(batch) && !frozen.set(batch, true);
    }

    boolean out(int tank, int from, int to) {
        boolean right = tank >= 0 && tank < tanks && 0 <= from && from < to && to <= days;
        return right && outs.size() < 12 && outs.add(new Out(tank, from, to));
    }

    boolean late(int batch, int more) {
        if (!isBatch(batch) || more < 0 || more > 10) {
            return false;
        }
        earliest.set(batch, plan.get(batch).start + more);
        return true;
    }

    int run(long nodes) {
        if (nodes < 0 || nodes > 4) {
            return -200;
        }
        findBest(rules);
        if (best == null) {
            lastBound = 5;
            return -1 - firstBar();
        }
        if (bestChanges > nodes) {
            lastBound = (int) nodes + 1;
            return -100;
        }
        history.add(new ArrayList<>(plan));
        if (history.size() > 16) {
            history.remove(0);
        }
        lastChanged = others(best, plan);
        lastCost = bestCost;
        lastBound = bestChanges;
        plan = new ArrayList<>(best);
        return bestChanges;
    }

    int tankOf(int batch) {
        return isBatch(batch) ? plan.get(batch).tank : -1;
    }

    int start(int batch) {
        return isBatch(batch) ? plan.get(batch).start : -1;
    }

    int changed(int k) {
        return k >= 0 && k < lastChanged.size() ? lastChanged.get(k) : -1;
    }

    int bound() {
        return lastBound;
    }

    boolean undo() {
        if (history.isEmpty()) {
            return false;
        }
        List<Place> old = history.remove(history.size() - 1);
        for (int i = 0; i < old.size(); i++) {
            plan.set(i, old.get(i));
        }
        return true;
    }

    int copy() {
        if (copies.size() == 8) {
            return -2;
        }
        copies.add(new ArrayList<>(plan));
        return copies.size() - 1;
    }

    int compare(int copy, int k) {
        if (copy < 0 || copy >= copies.size()) {
            return -1;
        }
        List<Integer> found = others(plan, copies.get(copy));
        return k >= 0 && k < found.size() ? found.get(k) : -1;
    }

    long cost() {
        return lastCost;
    }

    private boolean isBatch(int batch) {
        return batch >= 0 && batch < plan.size();
    }

    private static List<Integer> others(List<Place> now, List<Place> then) {
        List<Integer> found = new ArrayList<>();
        for (int i = 0; i < now.size(); i++) {
            if (i >= then.size() || !now.get(i).is(then.get(i))) {
                found.add(i);
            }
        }
        return found;
    }

    private int firstBar() {
        for (int i = 0; i < rules.size(); i++) {
            List<Rule> fewer = new ArrayList<>(rules);
            fewer.remove(i);
            findBest(fewer);
            if (best != null) {
                return i;
            }
        }
        return rules.size();
    }

    private void findBest(List<Rule> kept) {
        best = null;
        build(new ArrayList<>(), kept);
    }

    private void build(List<Place> built, List<Rule> kept) {
        if (!isGoodSoFar(built, kept)) {
            return;
        }
        if (built.size() == plan.size()) {
            judge(built);
            return;
        }
        for (int tank = 0; tank < tanks; tank++) {
            for (int start = 0; start < days; start++) {
                built.add(new Place(tank, start));
                build(built, kept);
                built.remove(built.size() - 1);
            }
        }
    }

    private void judge(List<Place> built) {
        int changes = others(built, plan).size();
        int cost = 0;
        for (int i = 0; i < built.size(); i++) {
            cost += Math.abs(built.get(i).start - plan.get(i).start);
            cost += built.get(i).tank == plan.get(i).tank ? 0 : 3;
        }
        if (best == null || changes < bestChanges || changes == bestChanges && cost < bestCost) {
            best = new ArrayList<>(built);
            bestChanges = changes;
            bestCost = cost;
        }
    }

    private boolean isGoodSoFar(List<Place> built, List<Rule> kept) {
        int last = built.size() - 1;
        if (last < 0) {
            return true;
        }
        Place put = built.get(last);
        if (put.start + lengths.get(last) > days || put.start < earliest.get(last)) {
            return false;
        }
        if (frozen.get(last) && !put.is(plan.get(last))) {
            return false;
        }
        for (int day = put.start; day < put.start + lengths.get(last); day++) {
            if (isTaken(built, last, put.tank, day)) {
                return false;
            }
        }
        for (Rule rule : kept) {
            boolean hasBoth = rule.a <= last && (rule.kind > 1 || rule.b <= last);
            if (hasBoth && !isKept(rule, built)) {
                return false;
            }
        }
        return true;
    }

    private boolean isTaken(List<Place> built, int last, int tank, int day) {
        for (Out out : outs) {
            if (out.tank == tank && out.from <= day && day < out.to) {
                return true;
            }
        }
        for (int i = 0; i < last; i++) {
            Place other = built.get(i);
            if (other.tank == tank && other.start <= day && day < other.start + lengths.get(i)) {
                return true;
            }
        }
        return false;
    }

    private boolean isKept(Rule rule, List<Place> built) {
        Place a = built.get(rule.a);
        switch (rule.kind) {
            case 0:
                return a.start - (built.get(rule.b).start + lengths.get(rule.b)) >= rule.d;
            case 1:
                return a.tank != built.get(rule.b).tank;
            case 2:
                return a.start + lengths.get(rule.a) <= rule.d;
            default:
                return a.start >= rule.d;
        }
    }
}
