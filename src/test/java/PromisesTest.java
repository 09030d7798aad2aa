/** Each promise of the document by calls whose answers were reckoned by hand. */
public final class PromisesTest {
    private static final int NONE = -1000000, BAD = -1000001, FULL = -1000002;
    private static final int LEAST = Integer.MIN_VALUE, GREATEST = Integer.MAX_VALUE;
    private static final Check CHECK = new Check();

    public static void main(String[] args) {
        promise1NewObject();
        promise2Thing();
        promise3Rule();
        promise4Amount();
        promise5On();
        promise6Set();
        promise7Value();
        promise8Counted();
        promise9First();
        promise10Fast();
        promise11Price();
        promise12Weight();
        promise13Rank();
        promise14More();
        promise15Must();
        promise16Span();
        promise17Put();
        promise18Worth();
        promise19Broken();
        promise20Share();
        promise21SharePrice();
        promise22Holds();
        promise23Gap();
        promise24Told();
        fullObjectAnswersAll();
        CHECK.end();
    }

    private static void due(String call, long got, long want) {
        CHECK.due(call, got, want);
    }

    /** Worth 5 and 4, at most 3 of each, 3 and 2 of what there are 10 of: 2 and 2 are best, 18. */
    private static RulePrices bakery() {
        RulePrices x = new RulePrices();
        x.thing(5, 3);
        x.thing(4, 3);
        x.rule(0, 0, 0, 10);
        x.amount(0, 0, 3);
        x.amount(0, 1, 2);
        return x;
    }

    /** Two things alike, of which there may be 3 in all. */
    private static RulePrices twins() {
        RulePrices x = new RulePrices();
        x.thing(2, 2);
        x.thing(2, 2);
        x.rule(0, 0, 0, 3);
        x.amount(0, 0, 1);
        x.amount(0, 1, 1);
        return x;
    }

    private static void promise1NewObject() {
        RulePrices x = new RulePrices();
        due("new: told(0)", x.told(0), 0);
        due("new: told(1)", x.told(1), 0);
        due("new: told(2)", x.told(2), 0);
        due("new: value", x.value(), 0);
        due("new: counted best", x.counted(0), 1);
        due("new: counted fitting", x.counted(1), 1);
        due("new: counted all", x.counted(2), 1);
        due("new: worth", x.worth(), 0);
        due("new: broken", x.broken(), NONE);
        due("new: share", x.share(false), 0);
        due("new: share below", x.share(true), 1);
        due("new: gap", x.gap(false), 0);
        due("new: gap below", x.gap(true), 1);
        due("new: first", x.first(0), BAD);
        due("new: rank", x.rank(0), BAD);
        x.thing(7, 2);
        due("new: nothing is put", x.put(0, 1), 0);
        due("a second new object has nothing of the first", new RulePrices().told(0), 0);
    }

    private static void promise2Thing() {
        RulePrices x = new RulePrices();
        due("thing: worth 100", x.thing(100, 1), BAD);
        due("thing: worth -100", x.thing(-100, 1), BAD);
        due("thing: most 10", x.thing(1, 10), BAD);
        due("thing: most -1", x.thing(1, -1), BAD);
        due("thing: far out", x.thing(LEAST, GREATEST), BAD);
        due("thing: none was made", x.told(0), 0);
        due("thing: least", x.thing(-99, 0), 0);
        due("thing: greatest", x.thing(99, 9), 1);
        due("thing: third", x.thing(0, 5), 2);
        due("thing: fourth", x.thing(3, 4), 3);
        due("thing: fifth", x.thing(3, 4), FULL);
        due("thing: fifth that is bad", x.thing(3, 10), BAD);
        due("thing: four stay", x.told(0), 4);
        due("thing: worth kept", x.told(30), -99);
        due("thing: most kept", x.told(41), 9);
        RulePrices later = bakery();
        later.value();
        later.share(false);
        later.thing(6, 2);
        due("thing: it counts at once", later.value(), 30);
        due("thing: it counts at once for shares", later.share(false), 92);
    }

    private static void promise3Rule() {
        RulePrices x = new RulePrices();
        due("rule: no thing for a pair", x.rule(1, 0, 0, 1), BAD);
        due("rule: a sum looks at neither", x.rule(0, LEAST, GREATEST, 999), 0);
        x.thing(1, 9);
        x.thing(1, 9);
        due("rule: kind 3", x.rule(3, 0, 1, 1), BAD);
        due("rule: kind -1", x.rule(-1, 0, 1, 1), BAD);
        due("rule: sum limit 1000", x.rule(0, 0, 1, 1000), BAD);
        due("rule: sum limit -1", x.rule(0, 0, 1, -1), BAD);
        due("rule: apart limit 10", x.rule(1, 0, 1, 10), BAD);
        due("rule: not both limit 10", x.rule(2, 0, 1, 10), BAD);
        due("rule: not both limit -1", x.rule(2, 0, 1, -1), BAD);
        due("rule: a is no thing", x.rule(1, 2, 1, 1), BAD);
        due("rule: b is no thing", x.rule(2, 0, -1, 1), BAD);
        due("rule: none was made", x.told(1), 1);
        due("rule: a may be b, apart", x.rule(1, 1, 1, 0), 1);
        due("rule: apart from itself forbids nothing", x.counted(1), 100);
        due("rule: a may be b, not both", x.rule(2, 1, 1, 3), 2);
        due("rule: not both of one is a most", x.counted(1), 40);
        due("rule: apart", x.rule(1, 0, 1, 9), 3);
        due("rule: it is on at first", x.told(2), 4);
        due("rule: sum", x.rule(0, 0, 0, 0), 4);
        due("rule: an amount is 0 at first", x.counted(1), 40);
        due("rule: sixth", x.rule(2, 0, 1, 0), 5);
        due("rule: seventh", x.rule(0, 0, 0, 0), FULL);
        due("rule: seventh that is bad", x.rule(1, 0, 2, 0), BAD);
        due("rule: six stay", x.told(1), 6);
    }

    private static void promise4Amount() {
        RulePrices x = bakery();
        x.rule(1, 0, 1, 2);
        x.rule(2, 0, 1, 2);
        due("amount: what it was", x.amount(0, 0, -9), 3);
        due("amount: what it became", x.amount(0, 0, 9), -9);
        due("amount: 10", x.amount(0, 0, 10), BAD);
        due("amount: -10", x.amount(0, 0, -10), BAD);
        due("amount: of apart", x.amount(1, 0, 1), BAD);
        due("amount: of not both", x.amount(2, 0, 1), BAD);
        due("amount: no rule", x.amount(3, 0, 1), BAD);
        due("amount: rule -1", x.amount(-1, 0, 1), BAD);
        due("amount: no thing", x.amount(0, 2, 1), BAD);
        due("amount: thing -1", x.amount(0, -1, 1), BAD);
        due("amount: wrong calls change nothing", x.amount(0, 0, 3), 9);
        due("amount: it counts", x.value(), 18);
        x.amount(0, 0, 0);
        due("amount: a change counts at once", x.value(), 23);
        x.thing(10, 1);
        due("amount: 0 at first of a later thing", x.amount(0, 2, 4), 0);
    }

    private static void promise5On() {
        RulePrices x = bakery();
        due("on: it was on", x.on(0, true), 1);
        due("on: off", x.on(0, false), 1);
        due("on: off does not count", x.value(), 27);
        due("on: off does not count for shares", x.share(false), 27);
        due("on: it was off", x.on(0, false), 0);
        due("on: on again", x.on(0, true), 0);
        due("on: on counts", x.value(), 18);
        due("on: no rule", x.on(1, false), BAD);
        due("on: rule -1", x.on(-1, false), BAD);
        due("on: far out", x.on(GREATEST, true), BAD);
        due("on: still on", x.told(2), 1);
    }

    private static void promise6Set() {
        RulePrices x = bakery();
        x.rule(1, 0, 1, 3);
        due("set: limit", x.set(0, 0, 999), 10);
        due("set: limit counts", x.value(), 27);
        due("set: limit 1000", x.set(0, 0, 1000), BAD);
        due("set: limit -1", x.set(0, 0, -1), BAD);
        due("set: limit of apart 10", x.set(0, 1, 10), BAD);
        due("set: limit of apart 9", x.set(0, 1, 9), 3);
        due("set: limit of no rule", x.set(0, 2, 1), BAD);
        due("set: worth", x.set(1, 1, -99), 4);
        due("set: worth counts", x.value(), 15);
        due("set: worth 100", x.set(1, 1, 100), BAD);
        due("set: worth -100", x.set(1, 1, -100), BAD);
        due("set: worth of no thing", x.set(1, 2, 1), BAD);
        due("set: most", x.set(2, 0, 9), 3);
        due("set: most counts", x.value(), 45);
        due("set: most 10", x.set(2, 0, 10), BAD);
        due("set: most -1", x.set(2, 0, -1), BAD);
        due("set: most of no thing", x.set(2, -1, 1), BAD);
        due("set: what 3", x.set(3, 0, 1), BAD);
        due("set: what -1", x.set(-1, 0, 1), BAD);
        due("set: limit stays", x.told(20), 999);
        due("set: worth stays", x.told(31), -99);
        due("set: most stays", x.told(40), 9);
    }

    private static void promise7Value() {
        due("value: of a sum", bakery().value(), 18);
        RulePrices x = new RulePrices();
        x.thing(-5, 3);
        due("value: nothing is best", x.value(), 0);
        x.thing(7, 9);
        x.rule(1, 1, 0, 2);
        due("value: apart, two free and the rest 5 dearer", x.value(), 20);
        x.rule(2, 0, 1, 3);
        due("value: not both above 3", x.value(), 20);
        x.set(0, 1, 0);
        due("value: not both at all", x.value(), 14);
        x.rule(0, 0, 0, 1);
        x.amount(2, 1, 1);
        x.amount(2, 0, -9);
        due("value: a sum with less than nothing of one", x.value(), 7);
        x.on(1, false);
        due("value: what counts below 0 gives room", x.value(), 20);
    }

    private static void promise8Counted() {
        RulePrices x = twins();
        due("counted: best", x.counted(0), 2);
        due("counted: fitting", x.counted(1), 8);
        due("counted: all", x.counted(2), 9);
        due("counted: 3", x.counted(3), BAD);
        due("counted: -1", x.counted(-1), BAD);
        due("counted: far out", x.counted(GREATEST), BAD);
        x.set(1, 0, 0);
        x.set(1, 1, 0);
        due("counted: all that fit are best", x.counted(0), 8);
        RulePrices great = new RulePrices();
        for (int t = 0; t < 4; t++) {
            great.thing(0, 9);
        }
        due("counted: most that there can be", great.counted(0), 10000);
    }

    private static void promise9First() {
        RulePrices x = twins();
        due("first: least in thing 0", x.first(0), 1);
        due("first: then the other", x.first(1), 2);
        due("first: no thing", x.first(2), BAD);
        due("first: -1", x.first(-1), BAD);
        RulePrices three = new RulePrices();
        three.thing(0, 3);
        three.thing(1, 2);
        three.thing(1, 2);
        three.rule(0, 0, 0, 2);
        three.amount(0, 1, 1);
        three.amount(0, 2, 1);
        due("first: as little as may be of what is worth nothing", three.first(0), 0);
        due("first: least in thing 1 of these", three.first(1), 0);
        due("first: thing 2 is left", three.first(2), 2);
    }

    private static void promise10Fast() {
        RulePrices x = twins();
        x.thing(5, 1);
        due("fast: not thing 0", x.fast(0), 0);
        due("fast: not thing 1", x.fast(1), 0);
        due("fast: thing 2", x.fast(2), 1);
        due("fast: no thing", x.fast(3), BAD);
        due("fast: -1", x.fast(-1), BAD);
        x.set(1, 0, 3);
        due("fast: one that is worth more", x.fast(0), 1);
        due("fast: and the other then", x.fast(1), 1);
        x.set(1, 0, 0);
        due("fast: of no worth, where there is room", x.fast(0), 0);
    }

    private static void promise11Price() {
        RulePrices x = bakery();
        due("price: 0", x.price(0, 0), 0);
        due("price: 1 more", x.price(0, 1), 1);
        due("price: 5 more", x.price(0, 5), 9);
        due("price: 989 more", x.price(0, 989), 9);
        due("price: 990 more", x.price(0, 990), BAD);
        due("price: 1 less", x.price(0, -1), -1);
        due("price: 10 less", x.price(0, -10), -18);
        due("price: 11 less", x.price(0, -11), BAD);
        due("price: greatest", x.price(0, GREATEST), BAD);
        due("price: least", x.price(0, LEAST), BAD);
        due("price: no rule", x.price(1, 0), BAD);
        due("price: rule -1", x.price(-1, 0), BAD);
        due("price: nothing has changed", x.told(20), 10);
        due("price: the value is the same", x.value(), 18);
        x.rule(2, 0, 1, 1);
        due("price: not both, 1 more", x.price(1, 1), 1);
        due("price: not both, 1 less", x.price(1, -1), -2);
        due("price: not both, 9 more", x.price(1, 9), BAD);
        x.on(0, false);
        due("price: of one that is off", x.price(0, 5), 0);
        due("price: of one that is off, beyond", x.price(0, 990), BAD);
        x.on(0, true);
        x.on(1, false);
        x.rule(1, 1, 0, 0);
        due("price: apart that binds nothing", x.price(2, 1), 0);
        x.set(1, 0, 0);
        due("price: apart, 1 more", x.price(2, 1), 0);
        due("price: apart, 2 more", x.price(2, 2), 4);
        due("price: apart, 10 more", x.price(2, 10), BAD);
    }

    private static void promise12Weight() {
        RulePrices x = bakery();
        x.rule(2, 0, 1, 1);
        due("weight: of the sum", x.weight(0), 2);
        due("weight: of not both", x.weight(1), 1);
        x.on(1, false);
        due("weight: of the sum alone", x.weight(0), 9);
        due("weight: of one that is off", x.weight(1), 0);
        due("weight: no rule", x.weight(2), BAD);
        due("weight: -1", x.weight(-1), BAD);
        x.rule(0, 0, 0, 10);
        x.amount(2, 0, 3);
        x.amount(2, 1, 2);
        due("weight: of one that another says again", x.weight(0), 0);
    }

    private static void promise13Rank() {
        RulePrices x = bakery();
        x.rule(0, 0, 0, 999);
        x.rule(2, 0, 1, 1);
        x.rule(0, 0, 0, 0);
        due("rank: place 0", x.rank(0), 0);
        due("rank: place 1", x.rank(1), 2);
        due("rank: place 2, the lesser number", x.rank(2), 1);
        due("rank: place 3", x.rank(3), 3);
        due("rank: place 4", x.rank(4), BAD);
        due("rank: place -1", x.rank(-1), BAD);
        x.on(0, false);
        due("rank: off weighs nothing, place 0", x.rank(0), 2);
        due("rank: off weighs nothing, place 1", x.rank(1), 0);
        due("rank: off weighs nothing, place 2", x.rank(2), 1);
    }

    private static void promise14More() {
        RulePrices x = new RulePrices();
        x.thing(6, 1);
        x.thing(4, 8);
        x.thing(-1, 0);
        x.thing(3, 9);
        due("more: one more fits", x.more(0), 6);
        due("more: up to 9", x.more(1), 4);
        due("more: of what is worth less than nothing", x.more(2), 0);
        due("more: beyond 9", x.more(3), BAD);
        due("more: no thing", x.more(4), BAD);
        due("more: -1", x.more(-1), BAD);
        due("more: the most is as it was", x.told(40), 1);
        due("more: the value is the same", x.value(), 65);
        x.rule(0, 0, 0, 2);
        x.amount(0, 0, 1);
        x.amount(0, 1, 1);
        due("more: in place of another", x.more(0), 2);
        due("more: where a rule stops it", x.more(1), 0);
        due("more: of what gives room for others", roomGiver().more(0), 5);
    }

    /** Each of thing 0 costs 1 and gives room for one of thing 1, which is worth 6. */
    private static RulePrices roomGiver() {
        RulePrices x = new RulePrices();
        x.thing(-1, 2);
        x.thing(6, 9);
        x.rule(1, 1, 0, 0);
        return x;
    }

    private static void promise15Must() {
        RulePrices x = bakery();
        due("must: 0", x.must(0, 0), 12);
        due("must: 1", x.must(0, 1), 17);
        due("must: 2", x.must(0, 2), 18);
        due("must: 3", x.must(0, 3), 15);
        due("must: 4", x.must(0, 4), BAD);
        due("must: -1", x.must(0, -1), BAD);
        due("must: no thing", x.must(2, 0), BAD);
        due("must: thing -1", x.must(-1, 0), BAD);
        x.set(0, 0, 8);
        due("must: 3 that do not fit", x.must(0, 3), NONE);
        x.set(1, 0, -99);
        x.set(1, 1, -99);
        due("must: a value below 0", x.must(0, 2), -198);
    }

    private static void promise16Span() {
        RulePrices x = bakery();
        due("span: least of 0", x.span(0, false), 4);
        due("span: greatest of 0", x.span(0, true), 8);
        due("span: least of 1", x.span(1, false), 3);
        due("span: greatest of 1", x.span(1, true), 5);
        due("span: no thing", x.span(2, true), BAD);
        due("span: thing -1", x.span(-1, false), BAD);
        x.on(0, false);
        due("span: least of what is at its most", x.span(0, false), 0);
        due("span: greatest of what is at its most", x.span(0, true), NONE);
        x.set(1, 0, -1);
        due("span: least of what there is none of", x.span(0, false), NONE);
        due("span: greatest of what there is none of", x.span(0, true), 0);
        x.set(2, 0, 0);
        due("span: no end, where there can be none", x.span(0, true), NONE);
        RulePrices tied = twins();
        due("span: as many as the first, least", tied.span(0, false), 0);
        due("span: as many as the first, greatest", tied.span(0, true), 2);
        RulePrices far = new RulePrices();
        far.thing(1, 1);
        far.thing(99, 9);
        far.rule(2, 0, 1, 0);
        due("span: beyond 99", far.span(0, true), 891);
        far.set(1, 1, -99);
        far.on(0, false);
        far.rule(1, 0, 1, 0);
        due("span: first has none", far.first(0), 0);
        due("span: one costs one of the other", far.span(0, true), 99);
        RulePrices forced = new RulePrices();
        forced.thing(-99, 9);
        forced.thing(99, 9);
        forced.thing(99, 9);
        forced.thing(99, 9);
        forced.rule(0, 0, 0, 0);
        forced.amount(0, 0, -9);
        forced.amount(0, 1, 3);
        forced.amount(0, 2, 3);
        forced.amount(0, 3, 3);
        due("span: first has all", forced.first(0), 9);
        due("span: below -99", forced.span(0, false), -297);
        due("span: a fraction rounds inward, least", roundedSpan().span(0, false), -2);
        due("span: a fraction rounds inward, greatest", roundedSpan().span(1, true), 4);
    }

    /** 2 of thing 0 make room for one of thing 1: it is as good from -5/2 on; thing 1 up to 9/2. */
    private static RulePrices roundedSpan() {
        RulePrices x = new RulePrices();
        x.thing(-2, 2);
        x.thing(0, 2);
        x.thing(5, 1);
        x.thing(9, 1);
        x.rule(0, 0, 0, 0);
        x.amount(0, 0, -1);
        x.amount(0, 2, 2);
        x.rule(0, 0, 0, 2);
        x.amount(1, 1, 1);
        x.amount(1, 3, 2);
        return x;
    }

    private static void promise17Put() {
        RulePrices x = bakery();
        due("put: 0 at first", x.put(0, 9), 0);
        due("put: what there were", x.put(0, 2), 9);
        due("put: 10", x.put(0, 10), BAD);
        due("put: -1", x.put(0, -1), BAD);
        due("put: no thing", x.put(2, 1), BAD);
        due("put: thing -1", x.put(-1, 1), BAD);
        due("put: wrong calls change nothing", x.put(0, 0), 2);
        due("put: each by itself", x.put(1, 1), 0);
        due("put: the value is not changed", x.value(), 18);
        x.set(2, 1, 0);
        due("put: it stays above a most", x.put(1, 3), 1);
    }

    private static void promise18Worth() {
        RulePrices x = bakery();
        due("worth: nothing", x.worth(), 0);
        x.put(0, 9);
        x.put(1, 2);
        due("worth: also what does not fit", x.worth(), 53);
        x.set(1, 0, -99);
        due("worth: below 0", x.worth(), -883);
        x.value();
        due("worth: after a look at all plans", x.worth(), -883);
    }

    private static void promise19Broken() {
        RulePrices x = bakery();
        x.rule(1, 1, 0, 0);
        x.rule(2, 0, 1, 1);
        due("broken: nothing fits", x.broken(), NONE);
        x.put(1, 1);
        due("broken: apart", x.broken(), 1);
        x.put(0, 2);
        due("broken: at its limit", x.broken(), NONE);
        x.put(1, 2);
        due("broken: not both", x.broken(), 2);
        x.put(0, 3);
        due("broken: the first rule", x.broken(), 0);
        x.put(1, 4);
        due("broken: a most ahead of rules", x.broken(), 101);
        x.put(0, 4);
        due("broken: the first most", x.broken(), 100);
        x.put(0, 3);
        x.put(1, 2);
        x.on(0, false);
        due("broken: one that is off does not count", x.broken(), 2);
        x.on(2, false);
        due("broken: all but apart off", x.broken(), NONE);
    }

    private static void dueShare(String of, RulePrices x, long n, long d) {
        due(of, x.share(false), n);
        due(of + ", below", x.share(true), d);
    }

    private static void promise20Share() {
        RulePrices x = bakery();
        dueShare("share: of a sum", x, 56, 3);
        x.set(0, 0, 9);
        dueShare("share: that is whole", x, 17, 1);
        x.rule(2, 0, 1, 0);
        dueShare("share: not both does not count", x, 17, 1);
        x.rule(1, 1, 0, 0);
        dueShare("share: apart counts", x, 81, 5);
        x.on(0, false);
        dueShare("share: without the sum", x, 27, 1);
        RulePrices four = new RulePrices();
        for (int t = 0; t < 4; t++) {
            four.thing(1, 9);
        }
        for (int r = 0; r < 4; r++) {
            four.rule(0, 0, 0, 1);
            for (int t = 0; t < 4; t++) {
                four.amount(r, t, t == r ? 1 : 2);
            }
        }
        dueShare("share: four rules meet at sevenths", four, 4, 7);
        RulePrices less = new RulePrices();
        less.thing(-7, 9);
        dueShare("share: never below 0", less, 0, 1);
    }

    private static void dueSharePrice(String of, RulePrices x, int rule, long n, long d, int holds) {
        due("sharePrice: " + of, x.sharePrice(rule, false), n);
        due("sharePrice: " + of + ", below", x.sharePrice(rule, true), d);
        due("holds: " + of, x.holds(rule), holds);
    }

    private static void promise21SharePrice() {
        RulePrices x = bakery();
        dueSharePrice("of a sum", x, 0, 5, 3, 5);
        x.set(0, 0, 6);
        dueSharePrice("where it bends, the one for more", x, 0, 5, 3, 9);
        x.set(0, 0, 5);
        dueSharePrice("ahead of a bend", x, 0, 2, 1, 1);
        x.set(0, 0, 15);
        dueSharePrice("where more is worth nothing", x, 0, 0, 1, 400);
        x.set(0, 0, 9);
        x.rule(1, 1, 0, 0);
        dueSharePrice("of apart", x, 1, 2, 5, 2);
        x.rule(2, 0, 1, 0);
        due("sharePrice: of not both", x.sharePrice(2, false), BAD);
        due("sharePrice: of not both, below", x.sharePrice(2, true), BAD);
        x.on(2, false);
        due("sharePrice: of not both that is off", x.sharePrice(2, false), BAD);
        x.on(0, false);
        dueSharePrice("of one that is off", x, 0, 0, 1, 400);
        due("sharePrice: no rule", x.sharePrice(3, false), BAD);
        due("sharePrice: no rule, below", x.sharePrice(3, true), BAD);
        due("sharePrice: -1", x.sharePrice(-1, false), BAD);
        RulePrices twice = bakery();
        twice.rule(0, 0, 0, 10);
        twice.amount(1, 0, 3);
        twice.amount(1, 1, 2);
        dueSharePrice("of one that another says again", twice, 0, 0, 1, 400);
        RulePrices bounds = new RulePrices();
        bounds.thing(1, 9);
        bounds.thing(0, 9);
        bounds.rule(1, 0, 1, 9);
        bounds.rule(0, 0, 0, 999);
        dueSharePrice("at its greatest limit", bounds, 0, 0, 1, 400);
        dueSharePrice("of a sum at its greatest limit", bounds, 1, 0, 1, 400);
    }

    private static void promise22Holds() {
        RulePrices x = new RulePrices();
        x.thing(6, 1);
        x.thing(1, 9);
        x.rule(0, 0, 0, 0);
        x.amount(0, 0, 3);
        x.amount(0, 1, 1);
        dueSharePrice("from nothing", x, 0, 2, 1, 3);
        x.set(0, 0, 2);
        dueSharePrice("one before the bend", x, 0, 2, 1, 1);
        x.set(0, 0, 3);
        dueSharePrice("at the bend", x, 0, 1, 1, 9);
        x.amount(0, 1, 9);
        dueSharePrice("far", x, 0, 1, 9, 81);
        RulePrices half = new RulePrices();
        half.thing(1, 1);
        half.rule(0, 0, 0, 1);
        half.amount(0, 0, 2);
        dueSharePrice("up to the limit of the most", half, 0, 1, 2, 1);
        dueSharePrice("a bend before 1", halfway(), 0, 1, 1, 0);
        RulePrices much = new RulePrices();
        for (int t = 0; t < 4; t++) {
            much.thing(9, 9);
        }
        much.rule(0, 0, 0, 0);
        for (int t = 0; t < 4; t++) {
            much.amount(0, t, 9);
        }
        dueSharePrice("324 and no more", much, 0, 1, 1, 324);
        due("holds: no rule", much.holds(1), BAD);
        due("holds: -1", much.holds(-1), BAD);
        much.rule(2, 0, 1, 0);
        due("holds: of not both", much.holds(1), BAD);
        much.on(1, false);
        due("holds: of not both that is off", much.holds(1), BAD);
        much.on(0, false);
        due("holds: of one that is off", much.holds(0), 400);
    }

    /** One thing, at most half of it by another rule, so that the price of rule 0 ends at u = 1/2. */
    private static RulePrices halfway() {
        RulePrices x = new RulePrices();
        x.thing(1, 1);
        x.rule(0, 0, 0, 0);
        x.amount(0, 0, 1);
        x.rule(0, 0, 0, 1);
        x.amount(1, 0, 2);
        return x;
    }

    private static void dueGap(String of, RulePrices x, long n, long d) {
        due("gap: " + of, x.gap(false), n);
        due("gap: " + of + ", below", x.gap(true), d);
    }

    private static void promise23Gap() {
        RulePrices x = bakery();
        dueGap("of a sum", x, 2, 3);
        x.set(0, 0, 9);
        dueGap("none", x, 0, 1);
        x.rule(2, 0, 1, 0);
        dueGap("not both counts for whole numbers alone", x, 2, 1);
        x.rule(1, 1, 0, 0);
        dueGap("in lowest terms", x, 6, 5);
    }

    private static void promise24Told() {
        RulePrices x = bakery();
        x.rule(2, 0, 1, 4);
        x.rule(1, 0, 1, 7);
        x.on(1, false);
        due("told: things", x.told(0), 2);
        due("told: rules", x.told(1), 3);
        due("told: rules that are on", x.told(2), 2);
        for (int what = 3; what < 10; what++) {
            due("told: " + what, x.told(what), BAD);
        }
        due("told: kind of 0", x.told(10), 0);
        due("told: kind of 1", x.told(11), 2);
        due("told: kind of 2", x.told(12), 1);
        due("told: kind of no rule", x.told(13), BAD);
        due("told: limit of 0", x.told(20), 10);
        due("told: limit of 1", x.told(21), 4);
        due("told: limit of 2", x.told(22), 7);
        due("told: limit of no rule", x.told(23), BAD);
        due("told: worth of 0", x.told(30), 5);
        due("told: worth of 1", x.told(31), 4);
        due("told: worth of no thing", x.told(32), BAD);
        due("told: most of 0", x.told(40), 3);
        due("told: most of 1", x.told(41), 3);
        due("told: most of no thing", x.told(42), BAD);
        due("told: 50", x.told(50), BAD);
        due("told: -1", x.told(-1), BAD);
        due("told: -10", x.told(-10), BAD);
        due("told: greatest", x.told(GREATEST), BAD);
        due("told: least", x.told(LEAST), BAD);
    }

    /** As many THINGS, RULES and plans as there can be: 20 of all, and for rule 5 one of thing 3 is as two. */
    private static void fullObjectAnswersAll() {
        RulePrices x = new RulePrices();
        for (int t = 0; t < 4; t++) {
            x.thing(10 + t, 9);
        }
        for (int r = 0; r < 6; r++) {
            x.rule(0, 0, 0, 20);
            for (int t = 0; t < 4; t++) {
                x.amount(r, t, 1);
            }
        }
        x.amount(5, 3, 2);
        due("full: value", x.value(), 227);
        due("full: all", x.counted(2), 10000);
        due("full: first", x.first(0), 2);
        due("full: fast", x.fast(3), 1);
        due("full: price", x.price(5, 1), 3);
        due("full: weight", x.weight(5), 20);
        due("full: rank", x.rank(0), 5);
        due("full: last rank", x.rank(5), 4);
        due("full: more", x.more(3), BAD);
        due("full: must", x.must(3, 9), 141);
        due("full: span", x.span(3, true), 20);
        due("full: put", x.put(3, 9), 0);
        due("full: worth", x.worth(), 117);
        due("full: broken", x.broken(), NONE);
        due("full: share", x.share(false), 227);
        due("full: share price", x.sharePrice(5, false), 3);
        due("full: holds", x.holds(5), 2);
        due("full: gap", x.gap(false), 0);
        due("full: told", x.told(2), 6);
    }
}
