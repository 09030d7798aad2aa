import java.math.BigInteger;
import java.util.ArrayList;
import java.util.List;

/** The document's words carried out as slowly and plainly as they stand, to compare answers with. */
final class PlainPrices {
    static final int NONE = -1000000, BAD = -1000001, FULL = -1000002;
    /** Far below every place at which the share value, over a limit, can bend. */
    private static final Fraction TINY = new Fraction(BigInteger.ONE, BigInteger.TEN.pow(15));

    private static final class Thing {
        int worth;
        int most;
        int put;
    }

    private static final class Rule {
        int kind;
        int a;
        int b;
        int limit;
        boolean on = true;
        final int[] amounts = new int[4];
    }

    private final List<Thing> things = new ArrayList<>();
    private final List<Rule> rules = new ArrayList<>();

    int thing(int worth, int most) {
        if (!in(worth, -99, 99) || !in(most, 0, 9)) {
            return BAD;
        }
        if (things.size() == 4) {
            return FULL;
        }
        Thing made = new Thing();
        made.worth = worth;
        made.most = most;
        things.add(made);
        return things.size() - 1;
    }

    int rule(int kind, int a, int b, int limit) {
        if (!in(kind, 0, 2) || !limitIs(kind, limit)) {
            return BAD;
        }
        if (kind != 0 && (noThing(a) || noThing(b))) {
            return BAD;
        }
        if (rules.size() == 6) {
            return FULL;
        }
        Rule made = new Rule();
        made.kind = kind;
        made.a = a;
        made.b = b;
        made.limit = limit;
        rules.add(made);
        return rules.size() - 1;
    }

    int amount(int rule, int thing, int v) {
        if (noRule(rule) || noThing(thing) || !in(v, -9, 9) || rules.get(rule).kind != 0) {
            return BAD;
        }
        int was = rules.get(rule).amounts[thing];
        rules.get(rule).amounts[thing] = v;
        return was;
    }

    int on(int rule, boolean on) {
        if (noRule(rule)) {
            return BAD;
        }
        boolean was = rules.get(rule).on;
        rules.get(rule).on = on;
        return was ? 1 : 0;
    }

    int set(int what, int k, int v) {
        int was = BAD;
        if (what == 0 && !noRule(k) && limitIs(rules.get(k).kind, v)) {
            was = rules.get(k).limit;
            rules.get(k).limit = v;
        } else if (what == 1 && !noThing(k) && in(v, -99, 99)) {
            was = things.get(k).worth;
            things.get(k).worth = v;
        } else if (what == 2 && !noThing(k) && in(v, 0, 9)) {
            was = things.get(k).most;
            things.get(k).most = v;
        }
        return was;
    }

    int value() {
        int greatest = NONE;
        for (int[] plan : fitting()) {
            greatest = Math.max(greatest, valueOf(plan));
        }
        return greatest;
    }

    int counted(int those) {
        switch (those) {
            case 0:
                return best().size();
            case 1:
                return fitting().size();
            case 2:
                return plans().size();
            default:
                return BAD;
        }
    }

    int first(int thing) {
        if (noThing(thing)) {
            return BAD;
        }
        int[] first = null;
        for (int[] plan : best()) {
            if (first == null || java.util.Arrays.compare(plan, first) < 0) {
                first = plan;
            }
        }
        return first[thing];
    }

    int fast(int thing) {
        if (noThing(thing)) {
            return BAD;
        }
        List<int[]> best = best();
        for (int[] plan : best) {
            if (plan[thing] != best.get(0)[thing]) {
                return 0;
            }
        }
        return 1;
    }

    int price(int rule, int u) {
        if (noRule(rule) || !limitIs(rules.get(rule).kind, (long) rules.get(rule).limit + u)) {
            return BAD;
        }
        int now = value();
        rules.get(rule).limit += u;
        int then = value();
        rules.get(rule).limit -= u;
        return then - now;
    }

    int weight(int rule) {
        if (noRule(rule)) {
            return BAD;
        }
        int now = value();
        boolean was = rules.get(rule).on;
        rules.get(rule).on = false;
        int then = value();
        rules.get(rule).on = was;
        return then - now;
    }

    int rank(int k) {
        if (noRule(k)) {
            return BAD;
        }
        List<Integer> order = new ArrayList<>();
        int[] weights = new int[rules.size()];
        for (int r = 0; r < weights.length; r++) {
            order.add(r);
            weights[r] = weight(r);
        }
        order.sort((x, y) -> weights[x] != weights[y] ? weights[y] - weights[x] : x - y);
        return order.get(k);
    }

    int more(int thing) {
        if (noThing(thing) || things.get(thing).most == 9) {
            return BAD;
        }
        int now = value();
        things.get(thing).most++;
        int then = value();
        things.get(thing).most--;
        return then - now;
    }

    int must(int thing, int k) {
        if (noThing(thing) || !in(k, 0, things.get(thing).most)) {
            return BAD;
        }
        int greatest = NONE;
        for (int[] plan : fitting()) {
            if (plan[thing] == k) {
                greatest = Math.max(greatest, valueOf(plan));
            }
        }
        return greatest;
    }

    /** Walks from the worth outward as long as the choice stays best; no end is farther than 10000. */
    int span(int thing, boolean greatest) {
        if (noThing(thing)) {
            return BAD;
        }
        List<int[]> fitting = fitting();
        int count = first(thing);
        int way = greatest ? 1 : -1;
        if (staysBest(fitting, thing, count, way * 1000000)) {
            return NONE;
        }
        int inside = things.get(thing).worth;
        while (staysBest(fitting, thing, count, inside + way)) {
            inside += way;
        }
        return inside;
    }

    private boolean staysBest(List<int[]> fitting, int thing, int count, int worth) {
        int was = things.get(thing).worth;
        things.get(thing).worth = worth;
        long greatest = Long.MIN_VALUE;
        long greatestWithCount = Long.MIN_VALUE;
        for (int[] plan : fitting) {
            int value = valueOf(plan);
            greatest = Math.max(greatest, value);
            if (plan[thing] == count) {
                greatestWithCount = Math.max(greatestWithCount, value);
            }
        }
        things.get(thing).worth = was;
        return greatest == greatestWithCount;
    }

    int put(int thing, int k) {
        if (noThing(thing) || !in(k, 0, 9)) {
            return BAD;
        }
        int was = things.get(thing).put;
        things.get(thing).put = k;
        return was;
    }

    int worth() {
        return valueOf(thePut());
    }

    int broken() {
        int[] plan = thePut();
        for (int t = 0; t < plan.length; t++) {
            if (plan[t] > things.get(t).most) {
                return 100 + t;
            }
        }
        for (int r = 0; r < rules.size(); r++) {
            if (rules.get(r).on && !isAs(plan, rules.get(r))) {
                return r;
            }
        }
        return NONE;
    }

    long share(boolean below) {
        return shareValue(-1, Fraction.ZERO).told(below);
    }

    long sharePrice(int rule, boolean below) {
        if (noRule(rule) || rules.get(rule).kind == 2) {
            return BAD;
        }
        return priceOf(rule).told(below);
    }

    int holds(int rule) {
        if (noRule(rule) || rules.get(rule).kind == 2) {
            return BAD;
        }
        Fraction price = priceOf(rule);
        // the share value bends only one way over a limit: where it once leaves the line, it stays off
        int holding = 0;
        int failing = 401;
        while (failing - holding > 1) {
            int u = (holding + failing) / 2;
            if (holdsFor(rule, u, price)) {
                holding = u;
            } else {
                failing = u;
            }
        }
        return holding;
    }

    /** As the document says it: one u after the other. */
    int holdsOneByOne(int rule) {
        Fraction price = priceOf(rule);
        int u = 0;
        while (u < 400 && holdsFor(rule, u + 1, price)) {
            u++;
        }
        return u;
    }

    long gap(boolean below) {
        return shareValue(-1, Fraction.ZERO).minus(Fraction.of(value())).told(below);
    }

    int told(int what) {
        int k = what % 10;
        if (what >= 0 && what <= 2) {
            int on = 0;
            for (Rule rule : rules) {
                on += rule.on ? 1 : 0;
            }
            return what == 0 ? things.size() : what == 1 ? rules.size() : on;
        }
        if (in(what, 10, 29) && !noRule(k)) {
            return what < 20 ? rules.get(k).kind : rules.get(k).limit;
        }
        if (in(what, 30, 49) && !noThing(k)) {
            return what < 40 ? things.get(k).worth : things.get(k).most;
        }
        return BAD;
    }

    private boolean holdsFor(int rule, int u, Fraction price) {
        Fraction now = shareValue(-1, Fraction.ZERO);
        return shareValue(rule, Fraction.of(u)).minus(now).is(price.times(Fraction.of(u)));
    }

    private Fraction priceOf(int rule) {
        return shareValue(rule, TINY).minus(shareValue(-1, Fraction.ZERO)).over(TINY);
    }

    /** The share value with a limit of one rule that is more. */
    private Fraction shareValue(int rule, Fraction more) {
        List<Fraction[]> a = new ArrayList<>();
        List<Fraction> b = new ArrayList<>();
        Fraction[] c = new Fraction[things.size()];
        for (int t = 0; t < c.length; t++) {
            c[t] = Fraction.of(things.get(t).worth);
            a.add(sharesOf(t, 1, t, 0));
            b.add(Fraction.of(things.get(t).most));
        }
        for (int r = 0; r < rules.size(); r++) {
            Rule told = rules.get(r);
            if (told.on && told.kind != 2) {
                a.add(told.kind == 1 ? sharesOf(told.a, 1, told.b, -1) : amountsOf(told));
                Fraction limit = Fraction.of(told.limit);
                b.add(r == rule ? limit.plus(more) : limit);
            }
        }
        return new Simplex(a.toArray(new Fraction[0][]), b.toArray(new Fraction[0]), c).greatest();
    }

    private Fraction[] sharesOf(int one, int times, int other, int otherTimes) {
        Fraction[] row = new Fraction[things.size()];
        for (int t = 0; t < row.length; t++) {
            row[t] = Fraction.of((t == one ? times : 0) + (t == other ? otherTimes : 0));
        }
        return row;
    }

    private Fraction[] amountsOf(Rule rule) {
        Fraction[] row = new Fraction[things.size()];
        for (int t = 0; t < row.length; t++) {
            row[t] = Fraction.of(rule.amounts[t]);
        }
        return row;
    }

    private static boolean in(long v, long least, long greatest) {
        return v >= least && v <= greatest;
    }

    private static boolean limitIs(int kind, long limit) {
        return in(limit, 0, kind == 0 ? 999 : 9);
    }

    private boolean noThing(int thing) {
        return !in(thing, 0, things.size() - 1);
    }

    private boolean noRule(int rule) {
        return !in(rule, 0, rules.size() - 1);
    }

    private int[] thePut() {
        int[] plan = new int[things.size()];
        for (int t = 0; t < plan.length; t++) {
            plan[t] = things.get(t).put;
        }
        return plan;
    }

    private int valueOf(int[] plan) {
        int sum = 0;
        for (int t = 0; t < plan.length; t++) {
            sum += plan[t] * things.get(t).worth;
        }
        return sum;
    }

    private List<int[]> plans() {
        List<int[]> all = new ArrayList<>();
        all.add(new int[things.size()]);
        for (int t = 0; t < things.size(); t++) {
            List<int[]> longer = new ArrayList<>();
            for (int[] plan : all) {
                for (int k = 0; k <= things.get(t).most; k++) {
                    int[] next = plan.clone();
                    next[t] = k;
                    longer.add(next);
                }
            }
            all = longer;
        }
        return all;
    }

    private List<int[]> fitting() {
        List<int[]> those = plans();
        those.removeIf(plan -> !fits(plan));
        return those;
    }

    private List<int[]> best() {
        int value = value();
        List<int[]> those = fitting();
        those.removeIf(plan -> valueOf(plan) != value);
        return those;
    }

    private boolean fits(int[] plan) {
        for (Rule rule : rules) {
            if (rule.on && !isAs(plan, rule)) {
                return false;
            }
        }
        return true;
    }

    private static boolean isAs(int[] plan, Rule rule) {
        if (rule.kind == 1) {
            return plan[rule.a] <= plan[rule.b] + rule.limit;
        }
        if (rule.kind == 2) {
            return plan[rule.a] <= rule.limit || plan[rule.b] <= rule.limit;
        }
        int sum = 0;
        for (int t = 0; t < plan.length; t++) {
            sum += plan[t] * rule.amounts[t];
        }
        return sum <= rule.limit;
    }
}
