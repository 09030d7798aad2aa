/** Long runs of calls, right and wrong ones mixed, each answer compared with the plain reckoning. */
public final class CompareTest {
    private static final int[] EDGES = {
        Integer.MIN_VALUE, Integer.MIN_VALUE + 1, -1000001, -1000, -100, -99, -10, -9, -1, 0, 1, 2, 3, 4, 5, 6,
        8, 9, 10, 99, 100, 400, 999, 1000, 1000000, Integer.MAX_VALUE - 1, Integer.MAX_VALUE
    };

    private final Check check;
    private final int run;
    private long seed;
    private final RulePrices tried = new RulePrices();
    private final PlainPrices plain = new PlainPrices();
    private final int greatestMost;

    private CompareTest(Check check, int run, int greatestMost) {
        this.check = check;
        this.run = run;
        this.greatestMost = greatestMost;
        seed = run * 7919L + 17;
    }

    public static void main(String[] args) {
        Check check = new Check();
        for (int run = 0; run < 1500 && check.allRight(); run++) {
            new CompareTest(check, run, 1 + run % 3).goThrough(60);
        }
        for (int run = 1500; run < 1530 && check.allRight(); run++) {
            new CompareTest(check, run, 9).goThrough(40);
        }
        for (int run = 1530; run < 1540 && check.allRight(); run++) {
            new CompareTest(check, run, 2).goThrough(500);
        }
        for (int run = 1540; run < 1560 && check.allRight(); run++) {
            new CompareTest(check, run, 9).holdOneByOne();
        }
        for (int run = 1560; run < 1960 && check.allRight(); run++) {
            new CompareTest(check, run, 9).askSharesOfGreatNumbers();
        }
        check.end();
    }

    /** Numbers from a fixed row, so that every run of the test is the same. */
    private int pick(int below) {
        seed = seed * 6364136223846793005L + 1442695040888963407L;
        return (int) ((seed >>> 33) % below);
    }

    private int between(int least, int greatest) {
        return least + pick(greatest - least + 1);
    }

    /** Mostly a number within the bounds, else one of the edges. */
    private int mostly(int least, int greatest) {
        return pick(12) == 0 ? EDGES[pick(EDGES.length)] : between(least, greatest);
    }

    private void goThrough(int calls) {
        int things = between(0, 4);
        for (int i = 0; i < things; i++) {
            addThing();
        }
        int rules = between(0, 6);
        for (int i = 0; i < rules; i++) {
            addRule();
        }
        for (int i = 0; i < calls && check.allRight(); i++) {
            if (pick(4) == 0) {
                change();
            } else if (pick(2) == 0) {
                askWhole();
            } else {
                askShares();
            }
        }
    }

    private void holdOneByOne() {
        for (int i = 0; i < 4; i++) {
            addThing();
            addRule();
        }
        for (int r = 0; r < plain.told(1); r++) {
            if (plain.told(10 + r) != 2) {
                due("holds", r, 0, tried.holds(r), plain.holdsOneByOne(r));
            }
        }
    }

    /** Four THINGS under six sums with great amounts: the greatest numerators and denominators. */
    private void askSharesOfGreatNumbers() {
        for (int t = 0; t < 4; t++) {
            int worth = between(90, 99);
            due("thing", worth, 9, tried.thing(worth, 9), plain.thing(worth, 9));
        }
        for (int r = 0; r < 6; r++) {
            int limit = pick(2) == 0 ? between(0, 200) : between(0, 20);
            due("rule", r, limit, tried.rule(0, 0, 0, limit), plain.rule(0, 0, 0, limit));
            for (int t = 0; t < 4; t++) {
                int v = pick(4) == 0 ? between(-9, 0) : between(6, 9);
                due("amount v " + v, r, t, tried.amount(r, t, v), plain.amount(r, t, v));
            }
        }
        due("share false", 0, 0, tried.share(false), plain.share(false));
        due("share true", 0, 0, tried.share(true), plain.share(true));
        for (int r = 0; r < 6; r++) {
            due("sharePrice false", r, 0, tried.sharePrice(r, false), plain.sharePrice(r, false));
            due("sharePrice true", r, 0, tried.sharePrice(r, true), plain.sharePrice(r, true));
            due("holds", r, 0, tried.holds(r), plain.holds(r));
        }
    }

    private void due(String call, int x, int y, long got, long want) {
        check.due("run " + run + ": " + call + "(" + x + ", " + y + ")", got, want);
    }

    private void addThing() {
        int worth = pick(3) == 0 ? between(-3, 6) : mostly(-99, 99);
        int most = pick(12) == 0 ? EDGES[pick(EDGES.length)] : between(0, greatestMost);
        if (most > greatestMost && most <= 9) {
            most = greatestMost;
        }
        due("thing", worth, most, tried.thing(worth, most), plain.thing(worth, most));
    }

    private void addRule() {
        int kind = pick(15) == 0 ? mostly(0, 3) : pick(5) == 0 ? 2 : pick(3) == 0 ? 1 : 0;
        int limit = kind == 0 ? (pick(3) == 0 ? mostly(0, 999) : mostly(0, 40)) : mostly(0, pick(2) == 0 ? 2 : 9);
        int a = mostly(0, 3);
        int b = mostly(0, 3);
        int number = plain.rule(kind, a, b, limit);
        due("rule kind " + kind + " limit " + limit, a, b, tried.rule(kind, a, b, limit), number);
        if (kind == 0 && number >= 0) {
            for (int t = 0; t < plain.told(0); t++) {
                if (pick(5) != 0) {
                    changeAmount(number, t);
                }
            }
        }
    }

    private void changeAmount(int rule, int thing) {
        int v = pick(3) == 0 ? mostly(-9, 9) : mostly(0, 5);
        due("amount v " + v, rule, thing, tried.amount(rule, thing, v), plain.amount(rule, thing, v));
    }

    private void change() {
        switch (pick(7)) {
            case 0:
                addThing();
                break;
            case 1:
                addRule();
                break;
            case 2:
                changeAmount(mostly(0, 5), mostly(0, 3));
                break;
            case 3:
                int rule = mostly(0, 5);
                boolean on = pick(2) == 0;
                due("on " + on, rule, 0, tried.on(rule, on), plain.on(rule, on));
                break;
            case 4:
                int thing = mostly(0, 3);
                int count = mostly(0, greatestMost + 1);
                due("put", thing, count, tried.put(thing, count), plain.put(thing, count));
                break;
            default:
                changeBySet();
        }
    }

    private void changeBySet() {
        int what = mostly(0, 2);
        int k = mostly(0, 5);
        int v = what == 2 ? between(-1, greatestMost) : what == 0 ? mostly(0, 12) : mostly(-99, 99);
        due("set what " + what, k, v, tried.set(what, k, v), plain.set(what, k, v));
    }

    private void askWhole() {
        int k = mostly(0, 3);
        int r = mostly(0, 5);
        int u = pick(3) == 0 ? mostly(-999, 999) : mostly(-9, 9);
        int those = mostly(0, 2);
        int count = mostly(0, greatestMost);
        int what = pick(6) == 0 ? EDGES[pick(EDGES.length)] : between(-1, 50);
        due("value", 0, 0, tried.value(), plain.value());
        due("counted", those, 0, tried.counted(those), plain.counted(those));
        due("first", k, 0, tried.first(k), plain.first(k));
        due("fast", k, 0, tried.fast(k), plain.fast(k));
        due("price", r, u, tried.price(r, u), plain.price(r, u));
        due("weight", r, 0, tried.weight(r), plain.weight(r));
        due("rank", r, 0, tried.rank(r), plain.rank(r));
        due("more", k, 0, tried.more(k), plain.more(k));
        due("must", k, count, tried.must(k, count), plain.must(k, count));
        due("span false", k, 0, tried.span(k, false), plain.span(k, false));
        due("span true", k, 0, tried.span(k, true), plain.span(k, true));
        due("worth", 0, 0, tried.worth(), plain.worth());
        due("broken", 0, 0, tried.broken(), plain.broken());
        due("told", what, 0, tried.told(what), plain.told(what));
    }

    private void askShares() {
        int r = mostly(0, 5);
        due("share false", 0, 0, tried.share(false), plain.share(false));
        due("share true", 0, 0, tried.share(true), plain.share(true));
        due("sharePrice false", r, 0, tried.sharePrice(r, false), plain.sharePrice(r, false));
        due("sharePrice true", r, 0, tried.sharePrice(r, true), plain.sharePrice(r, true));
        due("holds", r, 0, tried.holds(r), plain.holds(r));
        due("gap false", 0, 0, tried.gap(false), plain.gap(false));
        due("gap true", 0, 0, tried.gap(true), plain.gap(true));
    }
}
