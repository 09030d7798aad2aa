import java.util.function.ToLongFunction;

/**
 * Each call with all its numbers within, at and beyond their bounds, in every mix of these: it is refused
 * just where the document says so, and a refused call, like a question, changes no later answer.
 */
public final class RefusedTest {
    private static final int BAD = -1000001, FULL = -1000002;
    private static final int LEAST = Integer.MIN_VALUE, GREATEST = Integer.MAX_VALUE;
    private static final boolean[] BOTH = {false, true};
    /** For an object of 3 THINGS and 4 RULES. */
    private static final int[] PLACES = {LEAST, -1, 0, 1, 2, 3, 4, GREATEST};
    private static final int[] WORTHS = {LEAST, -100, -99, 0, 99, 100, GREATEST};
    private static final int[] COUNTS = {LEAST, -1, 0, 1, 2, 3, 4, 9, 10, GREATEST};
    private static final int[] AMOUNTS = {LEAST, -10, -9, 0, 9, 10, GREATEST};
    private static final int[] LIMITS = {LEAST, -1, 0, 9, 10, 999, 1000, GREATEST};
    private static final Check CHECK = new Check();

    public static void main(String[] args) {
        answersTellStatesApart();
        things();
        rules();
        amounts();
        ons();
        sets();
        puts();
        questionsOfThings();
        questionsOfRules();
        questionsOfAll();
        prices();
        musts();
        tolds();
        CHECK.end();
    }

    private static boolean within(long v, long least, long greatest) {
        return v >= least && v <= greatest;
    }

    private static boolean isThing(int t) {
        return within(t, 0, 2);
    }

    private static boolean isRule(int r) {
        return within(r, 0, 3);
    }

    /** RULES of the mixed object: SUM, APART, NOT BOTH, SUM. */
    private static int kindOf(int r) {
        return r == 1 ? 1 : r == 2 ? 2 : 0;
    }

    private static boolean isLimit(int kind, long v) {
        return within(v, 0, kind == 0 ? 999 : 9);
    }

    private static void refused(String call, ToLongFunction<RulePrices> tried) {
        States.refused(CHECK, call, States::mixed, tried, BAD);
    }

    /** A question is answered, if its numbers are as told; in no case does it change anything. */
    private static void question(String call, boolean good, ToLongFunction<RulePrices> tried) {
        if (!good) {
            refused(call, tried);
            return;
        }
        RulePrices x = States.mixed();
        long answer = tried.applyAsLong(x);
        CHECK.due(call + " is refused", answer == BAD || answer == FULL ? 1 : 0, 0);
        CHECK.due(call + ": all answers after it", Answers.of(x), Answers.of(States.mixed()));
    }

    /** Else "nothing changes" would be tested by a text that never changes. */
    private static void answersTellStatesApart() {
        differs("thing", x -> x.thing(0, 0));
        differs("rule", x -> x.rule(0, 0, 0, 999));
        for (int t = 0; t < 3; t++) {
            int thing = t;
            differs("amount in rule 0", x -> x.amount(0, thing, 9));
            differs("amount in a rule that is off", x -> x.amount(3, thing, 9));
            differs("worth", x -> x.set(1, thing, 9));
            differs("most", x -> x.set(2, thing, 9));
            differs("put", x -> x.put(thing, 3));
        }
        for (int r = 0; r < 4; r++) {
            int rule = r;
            differs("limit", x -> x.set(0, rule, 9));
            differs("on", x -> x.on(rule, rule == 3));
        }
    }

    private static void differs(String of, ToLongFunction<RulePrices> change) {
        RulePrices x = States.mixed();
        change.applyAsLong(x);
        CHECK.due(of + " leaves all answers", Answers.of(x).equals(Answers.of(States.mixed())) ? 1 : 0, 0);
    }

    private static void things() {
        for (int worth : WORTHS) {
            for (int most : COUNTS) {
                boolean good = within(worth, -99, 99) && within(most, 0, 9);
                String call = "thing(" + worth + ", " + most + ")";
                if (good) {
                    RulePrices x = States.mixed();
                    CHECK.due(call, x.thing(worth, most), 3);
                    CHECK.due(call + ": its worth", x.told(33), worth);
                    CHECK.due(call + ": its most", x.told(43), most);
                } else {
                    refused(call, x -> x.thing(worth, most));
                }
                States.refused(CHECK, call + " when full", States::full, x -> x.thing(worth, most), good ? FULL : BAD);
            }
        }
    }

    private static void rules() {
        for (int kind : new int[] {LEAST, -1, 0, 1, 2, 3, GREATEST}) {
            for (int a : new int[] {LEAST, -1, 0, 2, 3, GREATEST}) {
                for (int b : new int[] {LEAST, -1, 0, 2, 3, GREATEST}) {
                    for (int limit : LIMITS) {
                        rule(kind, a, b, limit);
                    }
                }
            }
        }
        for (int limit : LIMITS) {
            fullRule(0, LEAST, GREATEST, limit, isLimit(0, limit));
            fullRule(1, 0, 3, limit, isLimit(1, limit));
            fullRule(2, 3, 3, limit, isLimit(2, limit));
        }
        fullRule(-1, 0, 0, 0, false);
        fullRule(3, 0, 0, 0, false);
        fullRule(1, 4, 0, 0, false);
        fullRule(1, 0, 4, 0, false);
        fullRule(2, -1, 0, 0, false);
        fullRule(2, 0, -1, 0, false);
    }

    private static void rule(int kind, int a, int b, int limit) {
        boolean pairIsGood = kind == 0 || isThing(a) && isThing(b);
        String call = "rule(" + kind + ", " + a + ", " + b + ", " + limit + ")";
        if (!within(kind, 0, 2) || !isLimit(kind, limit) || !pairIsGood) {
            refused(call, x -> x.rule(kind, a, b, limit));
            return;
        }
        RulePrices x = States.mixed();
        CHECK.due(call, x.rule(kind, a, b, limit), 4);
        CHECK.due(call + ": its kind", x.told(14), kind);
        CHECK.due(call + ": its limit", x.told(24), limit);
        CHECK.due(call + ": it is on", x.on(4, true), 1);
    }

    private static void fullRule(int kind, int a, int b, int limit, boolean good) {
        String call = "rule(" + kind + ", " + a + ", " + b + ", " + limit + ") when full";
        States.refused(CHECK, call, States::full, x -> x.rule(kind, a, b, limit), good ? FULL : BAD);
    }

    private static void amounts() {
        for (int r : PLACES) {
            for (int t : PLACES) {
                for (int v : AMOUNTS) {
                    String call = "amount(" + r + ", " + t + ", " + v + ")";
                    if (isRule(r) && kindOf(r) == 0 && isThing(t) && within(v, -9, 9)) {
                        RulePrices x = States.mixed();
                        int was = x.amount(r, t, 0);
                        CHECK.due(call, x.amount(r, t, v), 0);
                        CHECK.due(call + ": what it became", x.amount(r, t, was), v);
                        CHECK.due(call + ": put back", Answers.of(x), Answers.of(States.mixed()));
                    } else {
                        refused(call, x -> x.amount(r, t, v));
                    }
                }
            }
        }
    }

    private static void ons() {
        for (int r : PLACES) {
            for (boolean on : BOTH) {
                String call = "on(" + r + ", " + on + ")";
                if (isRule(r)) {
                    RulePrices x = States.mixed();
                    CHECK.due(call, x.on(r, on), r == 3 ? 0 : 1);
                    CHECK.due(call + ": what it became", x.on(r, r != 3), on ? 1 : 0);
                    CHECK.due(call + ": put back", Answers.of(x), Answers.of(States.mixed()));
                } else {
                    refused(call, x -> x.on(r, on));
                }
            }
        }
    }

    private static void sets() {
        int[] numbers = {LEAST, -100, -99, -1, 0, 9, 10, 99, 100, 999, 1000, GREATEST};
        for (int what : new int[] {LEAST, -1, 0, 1, 2, 3, GREATEST}) {
            for (int k : PLACES) {
                for (int v : numbers) {
                    set(what, k, v);
                }
            }
        }
    }

    private static void set(int what, int k, int v) {
        boolean good = what == 0 && isRule(k) && isLimit(kindOf(k), v)
            || what == 1 && isThing(k) && within(v, -99, 99)
            || what == 2 && isThing(k) && within(v, 0, 9);
        String call = "set(" + what + ", " + k + ", " + v + ")";
        if (!good) {
            refused(call, x -> x.set(what, k, v));
            return;
        }
        RulePrices x = States.mixed();
        int place = 20 + 10 * what + k;
        int was = x.told(place);
        CHECK.due(call, x.set(what, k, v), was);
        CHECK.due(call + ": what it became", x.told(place), v);
        CHECK.due(call + ": what it was", x.set(what, k, was), v);
        CHECK.due(call + ": put back", Answers.of(x), Answers.of(States.mixed()));
    }

    private static void puts() {
        int[] were = {2, 1, 1};
        for (int t : PLACES) {
            for (int k : COUNTS) {
                String call = "put(" + t + ", " + k + ")";
                if (isThing(t) && within(k, 0, 9)) {
                    RulePrices x = States.mixed();
                    CHECK.due(call, x.put(t, k), were[t]);
                    CHECK.due(call + ": what it became", x.put(t, were[t]), k);
                    CHECK.due(call + ": put back", Answers.of(x), Answers.of(States.mixed()));
                } else {
                    refused(call, x -> x.put(t, k));
                }
            }
        }
    }

    private static void questionsOfThings() {
        for (int t : PLACES) {
            question("first(" + t + ")", isThing(t), x -> x.first(t));
            question("fast(" + t + ")", isThing(t), x -> x.fast(t));
            question("more(" + t + ")", isThing(t), x -> x.more(t));
            for (boolean greatest : BOTH) {
                question("span(" + t + ", " + greatest + ")", isThing(t), x -> x.span(t, greatest));
            }
        }
    }

    private static void questionsOfRules() {
        for (int r : PLACES) {
            boolean bearsSharePrice = isRule(r) && kindOf(r) != 2;
            question("weight(" + r + ")", isRule(r), x -> x.weight(r));
            question("rank(" + r + ")", isRule(r), x -> x.rank(r));
            question("holds(" + r + ")", bearsSharePrice, x -> x.holds(r));
            for (boolean below : BOTH) {
                question("sharePrice(" + r + ", " + below + ")", bearsSharePrice, x -> x.sharePrice(r, below));
            }
        }
    }

    private static void questionsOfAll() {
        for (int those : PLACES) {
            question("counted(" + those + ")", within(those, 0, 2), x -> x.counted(those));
        }
        question("value()", true, x -> x.value());
        question("worth()", true, x -> x.worth());
        question("broken()", true, x -> x.broken());
        for (boolean below : BOTH) {
            question("share(" + below + ")", true, x -> x.share(below));
            question("gap(" + below + ")", true, x -> x.gap(below));
        }
    }

    /** The LIMITS of the mixed object are 10, 1, 1 and 4. */
    private static void prices() {
        int[] limits = {10, 1, 1, 4};
        int[] us = {LEAST, -1000, -999, -11, -10, -5, -4, -2, -1, 0, 1, 8, 9, 989, 990, 995, 996, 999, 1000, GREATEST};
        for (int r : PLACES) {
            for (int u : us) {
                boolean good = isRule(r) && isLimit(kindOf(r), (long) limits[r] + u);
                question("price(" + r + ", " + u + ")", good, x -> x.price(r, u));
            }
        }
    }

    /** The MOSTS of the mixed object are 3, 3 and 2. */
    private static void musts() {
        int[] mosts = {3, 3, 2};
        for (int t : PLACES) {
            for (int k : COUNTS) {
                boolean good = isThing(t) && within(k, 0, mosts[t]);
                question("must(" + t + ", " + k + ")", good, x -> x.must(t, k));
            }
        }
    }

    private static void tolds() {
        for (int what = -50; what < 120; what++) {
            told(what);
        }
        for (int what : new int[] {LEAST, LEAST + 1, -1000000, 1000000, GREATEST - 1, GREATEST}) {
            told(what);
        }
    }

    private static void told(int what) {
        boolean good = within(what, 0, 2) || within(what, 10, 13) || within(what, 20, 23)
            || within(what, 30, 32) || within(what, 40, 42);
        question("told(" + what + ")", good, x -> x.told(what));
    }
}
