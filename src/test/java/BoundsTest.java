import java.util.function.Supplier;
import java.util.function.ToLongFunction;

/**
 * Each sentence of the document that names a bound, a refusal or an end, in a test of its own: at the
 * bound and just beyond it. The answers were reckoned by hand; labels begin with the promise's number.
 */
public final class BoundsTest {
    private static final int NONE = -1000000, BAD = -1000001, FULL = -1000002;
    private static final int LEAST = Integer.MIN_VALUE, GREATEST = Integer.MAX_VALUE;
    private static final Check CHECK = new Check();

    public static void main(String[] args) {
        whatItIs();
        terms();
        promises1To6();
        promises7To16();
        promises17To19();
        promises20To24();
        CHECK.end();
    }

    private static void whatItIs() {
        the512thCallIsAnswered();
        the512thCallOfTheDearestIsAnswered();
        objectsShareNothing();
    }

    private static void terms() {
        sumAtItsLimit();
        sumBelowZero();
        apartAtItsLimit();
        notBothAtItsLimit();
        offDoesNotCount();
        nothingOfAllAlwaysFits();
        eachChangeCountsAtOnce();
        questionsInAnyOrder();
    }

    private static void promises1To6() {
        newHasNoThings();
        newHasNoRules();
        newHasOnePlan();
        newHasNothingPut();
        thingWorth();
        thingMost();
        thingFull();
        thingBadAheadOfFull();
        ruleKind();
        ruleLimitOfSum();
        ruleLimitOfApart();
        ruleLimitOfNotBoth();
        ruleThings();
        ruleOfOneThing();
        ruleSumLooksAtNeither();
        ruleBegins();
        ruleFull();
        ruleBadAheadOfFull();
        amountValue();
        amountOtherKind();
        amountNoSuch();
        amountWhatItWas();
        onWhatItWas();
        onNoSuch();
        setWhat();
        setLimit();
        setWorth();
        setMost();
        setNoSuch();
    }

    private static void promises7To16() {
        valueEnds();
        countedThose();
        countedEnds();
        firstNoSuch();
        firstOfEquals();
        fastNoSuch();
        fastEnds();
        priceLimitOfSum();
        priceLimitOfPairs();
        priceNoSuch();
        priceOfOff();
        priceOfNone();
        weightNoSuch();
        weightOfOff();
        rankPlaces();
        rankOfEquals();
        moreUpTo9();
        moreNoSuch();
        mustCount();
        mustNone();
        mustNoSuch();
        spanNoEnds();
        spanFarEnds();
        spanNoSuch();
    }

    private static void promises17To19() {
        putCount();
        putNoSuch();
        putAtFirst();
        worthEnds();
        brokenMost();
        brokenMostAheadOfRules();
        brokenFirstRule();
        brokenLastRule();
        brokenNone();
    }

    private static void promises20To24() {
        shareEnds();
        shareLowestTerms();
        sharePriceOfOff();
        sharePriceOfNotBoth();
        sharePriceNoSuch();
        sharePriceAtBends();
        sharePriceAtWholeBends();
        sharePriceBeyondBounds();
        holdsEnds();
        holdsOfOff();
        holdsOfNotBoth();
        holdsNoSuch();
        gapEnds();
        toldCounts();
        toldOfRules();
        toldOfThings();
        toldBad();
    }

    private static void due(String call, long got, long want) {
        CHECK.due(call, got, want);
    }

    private static void refused(
            String call, Supplier<RulePrices> made, ToLongFunction<RulePrices> tried, long want) {
        States.refused(CHECK, call, made, tried, want);
    }

    /** THINGS 0 to 2, RULES 0 to 3: the first ones that are not there are 3 and 4. */
    private static void bad(String call, ToLongFunction<RulePrices> tried) {
        refused(call, States::mixed, tried, BAD);
    }

    /** As many THINGS as told, all alike. */
    private static RulePrices alike(int things, int worth, int most) {
        RulePrices x = new RulePrices();
        for (int t = 0; t < things; t++) {
            x.thing(worth, most);
        }
        return x;
    }

    private static int addSum(RulePrices x, int limit, int... amounts) {
        int rule = x.rule(0, 0, 0, limit);
        for (int t = 0; t < amounts.length; t++) {
            x.amount(rule, t, amounts[t]);
        }
        return rule;
    }

    // ---- What it is: at most 512 calls

    private static void the512thCallIsAnswered() {
        RulePrices x = new RulePrices();
        x.thing(5, 9);
        for (int call = 2; call < 512; call++) {
            x.set(1, 0, call % 99);
        }
        due("call 512", x.set(1, 0, 7), 511 % 99);
    }

    /** 4 + 6 + 24 calls to set it up, then changes and the questions that take longest, up to 512. */
    private static void the512thCallOfTheDearestIsAnswered() {
        RulePrices x = alike(4, 10, 9);
        for (int r = 0; r < 6; r++) {
            addSum(x, 20, 1, 1, 1, 1);
        }
        for (int round = 0; round < 68; round++) {
            int worth = round % 2 == 0 ? 20 : 10;
            int value = round % 2 == 0 ? 290 : 200;
            due("round " + round + ": set", x.set(1, 0, worth), 30 - worth);
            due("round " + round + ": price", x.price(0, 1), 0);
            due("round " + round + ": value", x.value(), value);
            due("round " + round + ": share", x.share(false), value);
            due("round " + round + ": holds", x.holds(5), 400);
            due("round " + round + ": set most", x.set(2, 3, 8 + round % 2), round == 0 ? 9 : 9 - round % 2);
            due("round " + round + ": more", x.more(3), round % 2 == 0 ? 0 : BAD);
        }
        due("call 511", x.value(), 200);
        due("call 512", x.counted(2), 10000);
    }

    private static void objectsShareNothing() {
        String before = Answers.of(States.mixed());
        RulePrices x = States.mixed();
        States.full();
        RulePrices other = States.full();
        other.value();
        other.share(false);
        other.put(1, 9);
        CHECK.due("answers of an object beside another", Answers.of(x), before);
    }

    // ---- Terms: the bounds of the three KINDS

    /** SUM: at most LIMIT. */
    private static void sumAtItsLimit() {
        RulePrices x = alike(1, 1, 9);
        addSum(x, 27, 3);
        due("terms: a sum of 27 is at most 27", x.value(), 9);
        x.set(0, 0, 26);
        due("terms: a sum of 27 is not at most 26", x.value(), 8);
        x.set(0, 0, 24);
        due("terms: a sum of 24 is at most 24", x.value(), 8);
        x.set(0, 0, 23);
        due("terms: a sum of 24 is not at most 23", x.value(), 7);
    }

    /** SUM with an AMOUNT below 0, down to -9 times 9 of three THINGS. */
    private static void sumBelowZero() {
        RulePrices x = alike(4, 1, 9);
        addSum(x, 0, 9, -9, -9, -9);
        due("terms: a sum of -162", x.value(), 36);
        x.amount(0, 1, 9);
        x.amount(0, 2, 9);
        due("terms: three take what one gives", x.value(), 18);
        x.set(0, 0, 9);
        due("terms: and one more", x.value(), 19);
    }

    /** APART: at most LIMIT more of a than of b; of b there may be any number more. */
    private static void apartAtItsLimit() {
        RulePrices x = alike(2, 0, 9);
        x.rule(1, 0, 1, 0);
        due("terms: apart 0", x.counted(1), 55);
        x.set(0, 0, 1);
        due("terms: apart 1", x.counted(1), 64);
        x.set(0, 0, 8);
        due("terms: apart 8", x.counted(1), 99);
        x.set(0, 0, 9);
        due("terms: apart 9", x.counted(1), 100);
        x.set(0, 0, 0);
        x.put(1, 9);
        due("terms: 9 more of b", x.broken(), NONE);
        x.put(0, 9);
        due("terms: as many of both", x.broken(), NONE);
        x.put(1, 8);
        due("terms: one more of a", x.broken(), 0);
    }

    /** NOT BOTH: of one of them, at least, there are at most LIMIT. */
    private static void notBothAtItsLimit() {
        RulePrices x = alike(2, 0, 9);
        x.rule(2, 0, 1, 0);
        due("terms: not both 0", x.counted(1), 19);
        x.set(0, 0, 1);
        due("terms: not both 1", x.counted(1), 36);
        x.set(0, 0, 8);
        due("terms: not both 8", x.counted(1), 99);
        x.set(0, 0, 9);
        due("terms: not both 9", x.counted(1), 100);
        x.set(0, 0, 3);
        x.put(0, 3);
        x.put(1, 9);
        due("terms: a is at the limit", x.broken(), NONE);
        x.put(0, 4);
        due("terms: both above the limit", x.broken(), 0);
        x.put(1, 3);
        due("terms: b is at the limit", x.broken(), NONE);
    }

    private static void offDoesNotCount() {
        RulePrices x = alike(2, 1, 9);
        addSum(x, 0, 1, 1);
        x.rule(1, 0, 1, 0);
        x.rule(2, 0, 1, 0);
        due("terms: all on", x.value(), 0);
        x.on(0, false);
        due("terms: the sum off", x.value(), 9);
        due("terms: the sum off, shares", x.share(false), 18);
        x.on(2, false);
        due("terms: not both off too", x.value(), 18);
        due("terms: apart alone", x.counted(1), 55);
        x.on(1, false);
        due("terms: all off", x.counted(1), 100);
    }

    private static void nothingOfAllAlwaysFits() {
        RulePrices x = alike(2, 99, 9);
        addSum(x, 0, 9, 9);
        x.rule(1, 0, 1, 0);
        x.rule(1, 1, 0, 0);
        x.rule(2, 0, 1, 0);
        due("terms: one fits", x.counted(1), 1);
        due("terms: it is of nothing", x.must(0, 0), 0);
        due("terms: its value", x.value(), 0);
        due("terms: its shares", x.share(false), 0);
    }

    /** After each change both values are asked, so that what was found out before is not told again. */
    private static void eachChangeCountsAtOnce() {
        RulePrices x = new RulePrices();
        dueBoth("none", x, 0, 0);
        x.thing(2, 9);
        dueBoth("a thing", x, 18, 18);
        x.thing(1, 9);
        dueBoth("another thing", x, 27, 27);
        x.rule(1, 0, 1, 0);
        x.rule(2, 0, 1, 3);
        dueBoth("two rules", x, 15, 27);
        x.on(1, false);
        dueBoth("a rule off", x, 27, 27);
        x.rule(0, 0, 0, 9);
        dueBoth("a sum of nothing", x, 27, 27);
        x.amount(2, 0, 1);
        x.amount(2, 1, 1);
        dueBoth("amounts", x, 13, 27);
        due("terms: share after amounts, below", x.share(true), 2);
        due("terms: weight of the sum", x.weight(2), 14);
        due("terms: weight of apart", x.weight(0), 5);
        x.set(0, 2, 8);
        dueBoth("a limit", x, 12, 12);
        due("terms: weight of the sum then", x.weight(2), 15);
        due("terms: weight of apart then", x.weight(0), 4);
        x.set(1, 1, 2);
        dueBoth("a worth", x, 16, 16);
        due("terms: weight of apart at last", x.weight(0), 0);
        x.set(2, 1, 3);
        dueBoth("a most", x, 12, 12);
    }

    private static void dueBoth(String of, RulePrices x, long value, long share) {
        due("terms: value after " + of, x.value(), value);
        due("terms: share after " + of, x.share(false), share);
    }

    /** What a question tries (another LIMIT, another MOST, the plan that is PUT) is gone with its answer. */
    private static void questionsInAnyOrder() {
        RulePrices x = alike(2, 2, 4);
        addSum(x, 3, 1, 1);
        x.put(0, 3);
        for (int round = 0; round < 2; round++) {
            due("terms: price", x.price(0, 6), 10);
            due("terms: more after a price", x.more(0), 0);
            due("terms: worth after more", x.worth(), 6);
            due("terms: more after worth", x.more(1), 0);
            due("terms: price after more", x.price(0, 5), 10);
            due("terms: broken after a price", x.broken(), NONE);
            due("terms: price after broken", x.price(0, -3), -6);
            due("terms: value after all", x.value(), 6);
        }
    }

    // ---- Promise 1: No THINGS, no RULES; nothing is PUT

    private static void emptyBad(String call, ToLongFunction<RulePrices> tried) {
        refused("1: new " + call, States::empty, tried, BAD);
    }

    private static void newHasNoThings() {
        due("1: new told(0)", new RulePrices().told(0), 0);
        emptyBad("told(30)", x -> x.told(30));
        emptyBad("told(40)", x -> x.told(40));
        emptyBad("set(1, 0, 0)", x -> x.set(1, 0, 0));
        emptyBad("set(2, 0, 0)", x -> x.set(2, 0, 0));
        emptyBad("rule(1, 0, 0, 0)", x -> x.rule(1, 0, 0, 0));
        emptyBad("rule(2, 0, 0, 0)", x -> x.rule(2, 0, 0, 0));
        emptyBad("first(0)", x -> x.first(0));
        emptyBad("fast(0)", x -> x.fast(0));
        emptyBad("more(0)", x -> x.more(0));
        emptyBad("must(0, 0)", x -> x.must(0, 0));
        emptyBad("span(0, false)", x -> x.span(0, false));
        emptyBad("span(0, true)", x -> x.span(0, true));
        emptyBad("put(0, 0)", x -> x.put(0, 0));
    }

    private static void newHasNoRules() {
        due("1: new told(1)", new RulePrices().told(1), 0);
        due("1: new told(2)", new RulePrices().told(2), 0);
        emptyBad("told(10)", x -> x.told(10));
        emptyBad("told(20)", x -> x.told(20));
        emptyBad("set(0, 0, 0)", x -> x.set(0, 0, 0));
        emptyBad("amount(0, 0, 0)", x -> x.amount(0, 0, 0));
        emptyBad("on(0, true)", x -> x.on(0, true));
        emptyBad("on(0, false)", x -> x.on(0, false));
        emptyBad("price(0, 0)", x -> x.price(0, 0));
        emptyBad("weight(0)", x -> x.weight(0));
        emptyBad("rank(0)", x -> x.rank(0));
        emptyBad("sharePrice(0, false)", x -> x.sharePrice(0, false));
        emptyBad("sharePrice(0, true)", x -> x.sharePrice(0, true));
        emptyBad("holds(0)", x -> x.holds(0));
    }

    private static void newHasOnePlan() {
        RulePrices x = new RulePrices();
        due("1: new value", x.value(), 0);
        due("1: new best", x.counted(0), 1);
        due("1: new fitting", x.counted(1), 1);
        due("1: new all", x.counted(2), 1);
        due("1: new share", x.share(false), 0);
        due("1: new share below", x.share(true), 1);
        due("1: new gap", x.gap(false), 0);
        due("1: new gap below", x.gap(true), 1);
    }

    private static void newHasNothingPut() {
        RulePrices x = new RulePrices();
        due("1: new worth", x.worth(), 0);
        due("1: new broken", x.broken(), NONE);
        for (int t = 0; t < 4; t++) {
            x.thing(1, 0);
            due("1: nothing is put of " + t, x.put(t, 9), 0);
        }
    }

    // ---- Promise 2: A THING: its number. BAD; FULL. WORTH -99 .. 99, MOST 0 .. 9, 4 at most

    private static void thingWorth() {
        RulePrices x = new RulePrices();
        due("2: worth -99", x.thing(-99, 1), 0);
        due("2: worth 99", x.thing(99, 1), 1);
        due("2: told worth -99", x.told(30), -99);
        due("2: told worth 99", x.told(31), 99);
        bad("2: worth -100", y -> y.thing(-100, 1));
        bad("2: worth 100", y -> y.thing(100, 1));
        bad("2: least worth", y -> y.thing(LEAST, 1));
        bad("2: greatest worth", y -> y.thing(GREATEST, 1));
    }

    private static void thingMost() {
        RulePrices x = new RulePrices();
        due("2: most 0", x.thing(1, 0), 0);
        due("2: plans with most 0", x.counted(2), 1);
        due("2: most 9", x.thing(1, 9), 1);
        due("2: plans with most 9", x.counted(2), 10);
        bad("2: most -1", y -> y.thing(1, -1));
        bad("2: most 10", y -> y.thing(1, 10));
        bad("2: least most", y -> y.thing(1, LEAST));
        bad("2: greatest most", y -> y.thing(1, GREATEST));
    }

    private static void thingFull() {
        RulePrices x = new RulePrices();
        for (int t = 0; t < 4; t++) {
            due("2: thing " + t, x.thing(t, t), t);
        }
        due("2: a fifth", x.thing(1, 1), FULL);
        due("2: four stay", x.told(0), 4);
        refused("2: full", States::full, y -> y.thing(0, 0), FULL);
        refused("2: full at the bounds", States::full, y -> y.thing(-99, 9), FULL);
        due("2: rules do not fill it", sixRules().thing(0, 0), 2);
    }

    private static void thingBadAheadOfFull() {
        refused("2: full and worth 100", States::full, y -> y.thing(100, 0), BAD);
        refused("2: full and worth -100", States::full, y -> y.thing(-100, 0), BAD);
        refused("2: full and most 10", States::full, y -> y.thing(0, 10), BAD);
        refused("2: full and most -1", States::full, y -> y.thing(0, -1), BAD);
    }

    /** 2 THINGS and 6 RULES. */
    private static RulePrices sixRules() {
        RulePrices x = alike(2, 1, 1);
        for (int r = 0; r < 6; r++) {
            x.rule(0, 0, 0, r);
        }
        return x;
    }

    // ---- Promise 3: A RULE: its number. BAD: KIND, LIMIT, a THING of 1, 2; FULL

    private static void ruleKind() {
        for (int kind = 0; kind < 3; kind++) {
            RulePrices x = alike(1, 1, 1);
            due("3: kind " + kind, x.rule(kind, 0, 0, 0), 0);
            due("3: told kind " + kind, x.told(10), kind);
        }
        bad("3: kind -1", x -> x.rule(-1, 0, 0, 0));
        bad("3: kind 3", x -> x.rule(3, 0, 0, 0));
        bad("3: least kind", x -> x.rule(LEAST, 0, 0, 0));
        bad("3: greatest kind", x -> x.rule(GREATEST, 0, 0, 0));
    }

    private static void ruleLimitOfSum() {
        RulePrices x = alike(1, 1, 9);
        due("3: sum of 0", x.rule(0, 0, 0, 0), 0);
        due("3: sum of 999", x.rule(0, 0, 0, 999), 1);
        due("3: told 0", x.told(20), 0);
        due("3: told 999", x.told(21), 999);
        bad("3: sum of -1", y -> y.rule(0, 0, 0, -1));
        bad("3: sum of 1000", y -> y.rule(0, 0, 0, 1000));
        bad("3: sum of the least", y -> y.rule(0, 0, 0, LEAST));
        bad("3: sum of the greatest", y -> y.rule(0, 0, 0, GREATEST));
    }

    private static void ruleLimitOfApart() {
        RulePrices x = alike(2, 1, 9);
        due("3: apart 0", x.rule(1, 0, 1, 0), 0);
        due("3: apart 9", x.rule(1, 0, 1, 9), 1);
        due("3: apart told 9", x.told(21), 9);
        bad("3: apart -1", y -> y.rule(1, 0, 1, -1));
        bad("3: apart 10", y -> y.rule(1, 0, 1, 10));
        bad("3: apart 999", y -> y.rule(1, 0, 1, 999));
    }

    private static void ruleLimitOfNotBoth() {
        RulePrices x = alike(2, 1, 9);
        due("3: not both 0", x.rule(2, 0, 1, 0), 0);
        due("3: not both 9", x.rule(2, 0, 1, 9), 1);
        due("3: not both told 9", x.told(21), 9);
        bad("3: not both -1", y -> y.rule(2, 0, 1, -1));
        bad("3: not both 10", y -> y.rule(2, 0, 1, 10));
        bad("3: not both 999", y -> y.rule(2, 0, 1, 999));
    }

    private static void ruleThings() {
        for (int k = 1; k <= 2; k++) {
            int kind = k;
            due("3: first and last of kind " + kind, States.mixed().rule(kind, 0, 2, 0), 4);
            due("3: last and first of kind " + kind, States.mixed().rule(kind, 2, 0, 0), 4);
            bad("3: a is 3, of kind " + kind, x -> x.rule(kind, 3, 0, 0));
            bad("3: a is -1, of kind " + kind, x -> x.rule(kind, -1, 0, 0));
            bad("3: b is 3, of kind " + kind, x -> x.rule(kind, 0, 3, 0));
            bad("3: b is -1, of kind " + kind, x -> x.rule(kind, 0, -1, 0));
            bad("3: both are 3, of kind " + kind, x -> x.rule(kind, 3, 3, 0));
            bad("3: far out, of kind " + kind, x -> x.rule(kind, LEAST, GREATEST, 0));
        }
    }

    /** a may be b: APART then says nothing, NOT BOTH is one more MOST. */
    private static void ruleOfOneThing() {
        RulePrices apart = alike(2, 1, 9);
        due("3: apart of one", apart.rule(1, 1, 1, 0), 0);
        due("3: all fit", apart.counted(1), 100);
        due("3: all shares fit", apart.share(false), 18);
        RulePrices both = alike(2, 1, 9);
        due("3: not both of one", both.rule(2, 1, 1, 4), 0);
        due("3: 4 at most", both.must(1, 4), 13);
        due("3: 5 do not fit", both.must(1, 5), NONE);
    }

    private static void ruleSumLooksAtNeither() {
        due("3: a sum without things", new RulePrices().rule(0, 0, 0, 0), 0);
        due("3: a sum, a and b far out", new RulePrices().rule(0, LEAST, GREATEST, 0), 0);
        due("3: a sum, a and b far out, too", States.mixed().rule(0, GREATEST, LEAST, 0), 4);
        RulePrices x = alike(2, 1, 9);
        x.rule(0, 0, 1, 0);
        due("3: a and b give a sum no amounts", x.value(), 18);
    }

    private static void ruleBegins() {
        RulePrices x = alike(4, 1, 9);
        x.rule(0, 0, 0, 0);
        due("3: it is on", x.told(2), 1);
        for (int t = 0; t < 4; t++) {
            due("3: its amount of " + t, x.amount(0, t, 0), 0);
        }
        due("3: a sum of nothing is at most 0", x.value(), 36);
    }

    private static void ruleFull() {
        RulePrices x = alike(1, 1, 1);
        for (int r = 0; r < 6; r++) {
            due("3: rule " + r, x.rule(r % 3, 0, 0, 1), r);
        }
        due("3: a seventh", x.rule(0, 0, 0, 1), FULL);
        due("3: six stay", x.told(1), 6);
        for (int k = 0; k < 3; k++) {
            int kind = k;
            refused("3: full, kind " + kind, States::full, y -> y.rule(kind, 0, 3, 9), FULL);
        }
        RulePrices off = sixRules();
        off.on(0, false);
        due("3: one that is off still takes its place", off.rule(0, 0, 0, 0), FULL);
        due("3: four things do not fill it", alike(4, 1, 1).rule(0, 0, 0, 0), 0);
    }

    private static void ruleBadAheadOfFull() {
        refused("3: full and kind 3", States::full, y -> y.rule(3, 0, 0, 0), BAD);
        refused("3: full and kind -1", States::full, y -> y.rule(-1, 0, 0, 0), BAD);
        refused("3: full and sum of 1000", States::full, y -> y.rule(0, 0, 0, 1000), BAD);
        refused("3: full and sum of -1", States::full, y -> y.rule(0, 0, 0, -1), BAD);
        refused("3: full and apart 10", States::full, y -> y.rule(1, 0, 0, 10), BAD);
        refused("3: full and not both 10", States::full, y -> y.rule(2, 0, 0, 10), BAD);
        refused("3: full and a is 4", States::full, y -> y.rule(1, 4, 0, 0), BAD);
        refused("3: full and b is 4", States::full, y -> y.rule(2, 0, 4, 0), BAD);
    }

    // ---- Promise 4: The AMOUNT becomes v: what it was. BAD: also a RULE of another KIND

    private static void amountValue() {
        RulePrices x = States.mixed();
        due("4: -9", x.amount(0, 0, -9), 3);
        due("4: 9", x.amount(0, 0, 9), -9);
        due("4: back", x.amount(0, 0, 3), 9);
        bad("4: -10", y -> y.amount(0, 0, -10));
        bad("4: 10", y -> y.amount(0, 0, 10));
        bad("4: the least", y -> y.amount(0, 0, LEAST));
        bad("4: the greatest", y -> y.amount(0, 0, GREATEST));
    }

    private static void amountOtherKind() {
        bad("4: of apart", x -> x.amount(1, 0, 1));
        bad("4: of apart, of a thing that it is not of", x -> x.amount(1, 2, 0));
        bad("4: of not both", x -> x.amount(2, 0, 1));
        bad("4: of not both, of a thing that it is not of", x -> x.amount(2, 2, 0));
    }

    private static void amountNoSuch() {
        due("4: the last rule and thing", States.mixed().amount(3, 2, 1), 0);
        bad("4: rule 4", x -> x.amount(4, 0, 1));
        bad("4: rule -1", x -> x.amount(-1, 0, 1));
        bad("4: thing 3", x -> x.amount(0, 3, 1));
        bad("4: thing -1", x -> x.amount(0, -1, 1));
        bad("4: far out", x -> x.amount(GREATEST, LEAST, 1));
        refused("4: full, rule 6", States::full, x -> x.amount(6, 0, 1), BAD);
        refused("4: full, thing 4", States::full, x -> x.amount(0, 4, 1), BAD);
    }

    private static void amountWhatItWas() {
        RulePrices x = States.mixed();
        due("4: of one that is off", x.amount(3, 0, 5), 1);
        x.thing(1, 1);
        due("4: of a later thing, 0 at first", x.amount(0, 3, 9), 0);
        due("4: of a later thing", x.amount(0, 3, 0), 9);
        due("4: the same again", x.amount(0, 0, 3), 3);
    }

    // ---- Promise 5: A RULE is ON, or OFF: 1, if it was ON, else 0. BAD

    private static void onWhatItWas() {
        RulePrices x = States.mixed();
        due("5: on at first, on", x.on(0, true), 1);
        due("5: on, off", x.on(0, false), 1);
        due("5: off, off", x.on(0, false), 0);
        due("5: off, on", x.on(0, true), 0);
        due("5: the last rule", x.on(3, true), 0);
        due("5: all are on", x.told(2), 4);
    }

    private static void onNoSuch() {
        bad("5: rule 4 on", x -> x.on(4, true));
        bad("5: rule 4 off", x -> x.on(4, false));
        bad("5: rule -1 on", x -> x.on(-1, true));
        bad("5: rule -1 off", x -> x.on(-1, false));
        bad("5: least", x -> x.on(LEAST, true));
        bad("5: greatest", x -> x.on(GREATEST, false));
        refused("5: full, rule 6", States::full, x -> x.on(6, false), BAD);
    }

    // ---- Promise 6: Of a RULE or THING: 0 the LIMIT, 1 the WORTH, 2 the MOST becomes v. BAD

    private static void setWhat() {
        bad("6: what -1", x -> x.set(-1, 0, 1));
        bad("6: what 3", x -> x.set(3, 0, 1));
        bad("6: least what", x -> x.set(LEAST, 0, 1));
        bad("6: greatest what", x -> x.set(GREATEST, 0, 1));
    }

    private static void setLimit() {
        RulePrices x = States.mixed();
        due("6: limit of a sum 0", x.set(0, 0, 0), 10);
        due("6: limit of a sum 999", x.set(0, 0, 999), 0);
        due("6: limit of a sum is told", x.told(20), 999);
        bad("6: limit of a sum -1", y -> y.set(0, 0, -1));
        bad("6: limit of a sum 1000", y -> y.set(0, 0, 1000));
        for (int r = 1; r <= 2; r++) {
            int rule = r;
            due("6: limit of a pair 0", x.set(0, rule, 0), 1);
            due("6: limit of a pair 9", x.set(0, rule, 9), 0);
            due("6: limit of a pair is told", x.told(20 + rule), 9);
            bad("6: limit of pair " + rule + " -1", y -> y.set(0, rule, -1));
            bad("6: limit of pair " + rule + " 10", y -> y.set(0, rule, 10));
        }
        due("6: limit of one that is off", x.set(0, 3, 999), 4);
        bad("6: limit 1000 of one that is off", y -> y.set(0, 3, 1000));
        bad("6: least limit", y -> y.set(0, 0, LEAST));
        bad("6: greatest limit", y -> y.set(0, 0, GREATEST));
    }

    private static void setWorth() {
        RulePrices x = States.mixed();
        due("6: worth -99", x.set(1, 0, -99), 5);
        due("6: worth 99", x.set(1, 0, 99), -99);
        due("6: worth is told", x.told(30), 99);
        bad("6: worth -100", y -> y.set(1, 0, -100));
        bad("6: worth 100", y -> y.set(1, 0, 100));
        bad("6: least worth", y -> y.set(1, 0, LEAST));
        bad("6: greatest worth", y -> y.set(1, 0, GREATEST));
    }

    private static void setMost() {
        RulePrices x = States.mixed();
        due("6: most 0", x.set(2, 0, 0), 3);
        due("6: most 9", x.set(2, 0, 9), 0);
        due("6: most is told", x.told(40), 9);
        bad("6: most -1", y -> y.set(2, 0, -1));
        bad("6: most 10", y -> y.set(2, 0, 10));
        bad("6: least most", y -> y.set(2, 0, LEAST));
        bad("6: greatest most", y -> y.set(2, 0, GREATEST));
    }

    /** 3 THINGS and 4 RULES: k = 3 is a RULE and no THING. With 2 RULES of 4 THINGS it is the other way. */
    private static void setNoSuch() {
        due("6: limit of the last rule", States.mixed().set(0, 3, 1), 4);
        due("6: worth of the last thing", States.mixed().set(1, 2, 1), -1);
        due("6: most of the last thing", States.mixed().set(2, 2, 1), 2);
        bad("6: limit of rule 4", x -> x.set(0, 4, 1));
        bad("6: worth of thing 3", x -> x.set(1, 3, 1));
        bad("6: most of thing 3", x -> x.set(2, 3, 1));
        for (int w = 0; w < 3; w++) {
            int what = w;
            bad("6: what " + what + " of -1", x -> x.set(what, -1, 1));
            bad("6: what " + what + " of the least", x -> x.set(what, LEAST, 1));
            bad("6: what " + what + " of the greatest", x -> x.set(what, GREATEST, 1));
        }
        RulePrices few = alike(4, 1, 1);
        few.rule(0, 0, 0, 5);
        due("6: limit of rule 1, where a thing 1 is", few.set(0, 1, 1), BAD);
        due("6: worth of thing 3, where no rule 3 is", few.set(1, 3, 2), 1);
    }

    // ---- Promise 7: THE VALUE

    private static void valueEnds() {
        due("7: greatest", alike(4, 99, 9).value(), 3564);
        due("7: never below 0", alike(4, -99, 9).value(), 0);
        due("7: of no worth", alike(4, 0, 9).value(), 0);
        due("7: nothing may be", alike(4, 99, 0).value(), 0);
    }

    // ---- Promise 8: How many PLANS are BEST (0), FIT (1), there are (2). BAD

    private static void countedThose() {
        RulePrices x = alike(2, 1, 1);
        addSum(x, 1, 1, 1);
        due("8: 0", x.counted(0), 2);
        due("8: 1", x.counted(1), 3);
        due("8: 2", x.counted(2), 4);
        bad("8: -1", y -> y.counted(-1));
        bad("8: 3", y -> y.counted(3));
        bad("8: least", y -> y.counted(LEAST));
        bad("8: greatest", y -> y.counted(GREATEST));
    }

    private static void countedEnds() {
        RulePrices x = alike(4, 0, 9);
        due("8: all are best", x.counted(0), 10000);
        due("8: all fit", x.counted(1), 10000);
        due("8: all that there can be", x.counted(2), 10000);
        addSum(x, 0, 1, 1, 1, 1);
        due("8: one is best", x.counted(0), 1);
        due("8: one fits", x.counted(1), 1);
        due("8: there are as many", x.counted(2), 10000);
        due("8: with a most of 0 there is one", alike(4, 1, 0).counted(2), 1);
    }

    // ---- Promise 9: How many THE FIRST has of a THING. BAD

    private static void firstNoSuch() {
        due("9: of the last", alike(4, 1, 9).first(3), 9);
        bad("9: thing 3", x -> x.first(3));
        bad("9: thing -1", x -> x.first(-1));
        bad("9: least", x -> x.first(LEAST));
        bad("9: greatest", x -> x.first(GREATEST));
        refused("9: full, thing 4", States::full, x -> x.first(4), BAD);
    }

    /** Least in THING 0, of these in THING 1, and so on. */
    private static void firstOfEquals() {
        RulePrices x = alike(4, 1, 1);
        addSum(x, 2, 1, 1, 1, 1);
        due("9: least in 0", x.first(0), 0);
        due("9: least in 1", x.first(1), 0);
        due("9: then 2", x.first(2), 1);
        due("9: then 3", x.first(3), 1);
        x.set(0, 0, 3);
        due("9: 3 of them, least in 0", x.first(0), 0);
        due("9: 3 of them, then 1", x.first(1), 1);
        due("9: of no worth none", alike(4, 0, 9).first(0), 0);
    }

    // ---- Promise 10: Whether a THING is FAST: 1, 0. BAD

    private static void fastNoSuch() {
        due("10: of the last", alike(4, 1, 9).fast(3), 1);
        bad("10: thing 3", x -> x.fast(3));
        bad("10: thing -1", x -> x.fast(-1));
        bad("10: least", x -> x.fast(LEAST));
        bad("10: greatest", x -> x.fast(GREATEST));
        refused("10: full, thing 4", States::full, x -> x.fast(4), BAD);
    }

    private static void fastEnds() {
        due("10: of which there can be none", alike(1, 0, 0).fast(0), 1);
        due("10: of no worth", alike(1, 0, 1).fast(0), 0);
        due("10: worth 1", alike(1, 1, 1).fast(0), 1);
        due("10: worth -1", alike(1, -1, 1).fast(0), 1);
    }

    // ---- Promise 11: with a LIMIT that is more by u. BAD: also if that is none of its KIND. (0 of OFF.)

    private static void priceLimitOfSum() {
        RulePrices x = alike(1, 2, 9);
        addSum(x, 0, 1);
        due("11: from 0, 0 more", x.price(0, 0), 0);
        due("11: from 0, 9 more", x.price(0, 9), 18);
        due("11: from 0, 999 more", x.price(0, 999), 18);
        due("11: from 0, 1000 more", x.price(0, 1000), BAD);
        due("11: from 0, 1 less", x.price(0, -1), BAD);
        x.set(0, 0, 999);
        due("11: from 999, 999 less", x.price(0, -999), -18);
        due("11: from 999, 1000 less", x.price(0, -1000), BAD);
        due("11: from 999, 1 more", x.price(0, 1), BAD);
        due("11: from 999, 990 less", x.price(0, -990), 0);
        due("11: from 999, 991 less", x.price(0, -991), -2);
        bad("11: from 10, 990 more", y -> y.price(0, 990));
        bad("11: from 10, 11 less", y -> y.price(0, -11));
        bad("11: greatest", y -> y.price(0, GREATEST));
        bad("11: least", y -> y.price(0, LEAST));
    }

    private static void priceLimitOfPairs() {
        for (int kind = 1; kind <= 2; kind++) {
            RulePrices x = alike(1, 2, 9);
            x.thing(kind == 1 ? -9 : 2, 9);
            x.rule(kind, 0, 1, 0);
            due("11: pair " + kind + " from 0, 9 more", x.price(0, 9), 18);
            due("11: pair " + kind + " from 0, 1 more", x.price(0, 1), 2);
            due("11: pair " + kind + " from 0, 10 more", x.price(0, 10), BAD);
            due("11: pair " + kind + " from 0, 1 less", x.price(0, -1), BAD);
            x.set(0, 0, 9);
            due("11: pair " + kind + " from 9, 9 less", x.price(0, -9), -18);
            due("11: pair " + kind + " from 9, 10 less", x.price(0, -10), BAD);
            due("11: pair " + kind + " from 9, 1 more", x.price(0, 1), BAD);
        }
        bad("11: apart, from 1, 9 more", y -> y.price(1, 9));
        bad("11: apart, from 1, 2 less", y -> y.price(1, -2));
        bad("11: not both, from 1, 9 more", y -> y.price(2, 9));
        bad("11: not both, from 1, 2 less", y -> y.price(2, -2));
    }

    private static void priceNoSuch() {
        bad("11: rule 4", x -> x.price(4, 0));
        bad("11: rule -1", x -> x.price(-1, 0));
        bad("11: least rule", x -> x.price(LEAST, 0));
        bad("11: greatest rule", x -> x.price(GREATEST, 0));
        refused("11: full, rule 6", States::full, x -> x.price(6, 0), BAD);
    }

    private static void priceOfOff() {
        RulePrices x = alike(1, 2, 9);
        addSum(x, 5, 1);
        x.on(0, false);
        due("11: off, 1 more", x.price(0, 1), 0);
        due("11: off, 5 less", x.price(0, -5), 0);
        due("11: off, up to 999", x.price(0, 994), 0);
        due("11: off, up to 1000", x.price(0, 995), BAD);
        due("11: off, down to -1", x.price(0, -6), BAD);
    }

    /** A price is a question: the LIMIT and THE VALUE stay. */
    private static void priceOfNone() {
        RulePrices x = States.mixed();
        x.price(0, 989);
        x.price(0, -10);
        CHECK.due("11: all answers after prices", Answers.of(x), Answers.of(States.mixed()));
        due("11: where no thing is", noThings().price(0, 1), 0);
    }

    private static RulePrices noThings() {
        RulePrices x = new RulePrices();
        x.rule(0, 0, 0, 0);
        return x;
    }

    // ---- Promise 12: THE WEIGHT. BAD

    private static void weightNoSuch() {
        due("12: of the last", States.full().weight(5), 0);
        bad("12: rule 4", x -> x.weight(4));
        bad("12: rule -1", x -> x.weight(-1));
        bad("12: least", x -> x.weight(LEAST));
        bad("12: greatest", x -> x.weight(GREATEST));
        refused("12: full, rule 6", States::full, x -> x.weight(6), BAD);
    }

    private static void weightOfOff() {
        RulePrices x = alike(4, 99, 9);
        addSum(x, 0, 1, 1, 1, 1);
        due("12: greatest that there can be", x.weight(0), 3564);
        x.on(0, false);
        due("12: of one that is off", x.weight(0), 0);
        due("12: where no thing is", noThings().weight(0), 0);
    }

    // ---- Promise 13: The RULE at place k, from 0 on. BAD

    private static void rankPlaces() {
        RulePrices x = alike(3, 1, 9);
        addSum(x, 8, 1, 0, 0);
        addSum(x, 6, 0, 1, 0);
        addSum(x, 7, 0, 0, 1);
        due("13: place 0", x.rank(0), 1);
        due("13: place 1", x.rank(1), 2);
        due("13: the last place", x.rank(2), 0);
        due("13: beyond the last place", x.rank(3), BAD);
        bad("13: place 4", y -> y.rank(4));
        bad("13: place -1", y -> y.rank(-1));
        bad("13: least", y -> y.rank(LEAST));
        bad("13: greatest", y -> y.rank(GREATEST));
        refused("13: full, place 6", States::full, y -> y.rank(6), BAD);
    }

    /** Of the same the lesser number; one that is OFF weighs 0, and has a place. */
    private static void rankOfEquals() {
        RulePrices x = alike(2, 1, 9);
        for (int r = 0; r < 6; r++) {
            addSum(x, 5, 1, 0);
        }
        for (int k = 0; k < 6; k++) {
            due("13: all weigh 0, place " + k, x.rank(k), k);
        }
        x.amount(4, 0, 0);
        x.amount(4, 1, 1);
        x.on(0, false);
        due("13: the one that weighs", x.rank(0), 4);
        due("13: one that is off", x.rank(1), 0);
        due("13: then the lesser numbers", x.rank(4), 3);
        due("13: the last", x.rank(5), 5);
    }

    // ---- Promise 14: with a MOST that is more by one. BAD: also if that is 9

    private static void moreUpTo9() {
        RulePrices x = alike(1, 5, 0);
        due("14: most 0", x.more(0), 5);
        x.set(2, 0, 8);
        due("14: most 8", x.more(0), 5);
        due("14: most 8 stays", x.told(40), 8);
        x.set(2, 0, 9);
        due("14: most 9", x.more(0), BAD);
        refused("14: most 9 changes nothing", () -> alike(2, 5, 9), y -> y.more(1), BAD);
        due("14: never below 0", alike(1, -99, 8).more(0), 0);
        due("14: the most that it can be", alike(1, 99, 8).more(0), 99);
    }

    private static void moreNoSuch() {
        due("14: of the last", alike(4, 1, 8).more(3), 1);
        bad("14: thing 3", x -> x.more(3));
        bad("14: thing -1", x -> x.more(-1));
        bad("14: least", x -> x.more(LEAST));
        bad("14: greatest", x -> x.more(GREATEST));
        refused("14: full, thing 4", States::full, x -> x.more(4), BAD);
    }

    // ---- Promise 15: The greatest VALUE with k of a THING; NONE. BAD: k is not 0 to its MOST, too

    private static void mustCount() {
        RulePrices x = alike(2, 3, 9);
        due("15: 0", x.must(0, 0), 27);
        due("15: 9, its most", x.must(0, 9), 54);
        due("15: 10", x.must(0, 10), BAD);
        x.set(2, 0, 5);
        due("15: 5, its most", x.must(0, 5), 42);
        due("15: 6, above its most", x.must(0, 6), BAD);
        due("15: 9 of the other", x.must(1, 9), 42);
        x.set(2, 0, 0);
        due("15: 0, its most", x.must(0, 0), 27);
        due("15: 1, above its most of 0", x.must(0, 1), BAD);
        bad("15: -1", y -> y.must(0, -1));
        bad("15: 4, above 3", y -> y.must(0, 4));
        bad("15: least", y -> y.must(0, LEAST));
        bad("15: greatest", y -> y.must(0, GREATEST));
    }

    private static void mustNone() {
        RulePrices x = alike(2, 3, 9);
        addSum(x, 4, 2, 0);
        due("15: 2 fit", x.must(0, 2), 33);
        due("15: 3 do not", x.must(0, 3), NONE);
        due("15: nor 9", x.must(0, 9), NONE);
        due("15: none of it always fits", x.must(0, 0), 27);
        refused("15: none changes nothing", States::mixed, y -> y.must(0, 3), NONE);
        due("15: the least value", alike(1, -99, 9).must(0, 9), -891);
        RulePrices low = alike(4, -99, 9);
        low.rule(1, 0, 1, 0);
        low.rule(1, 0, 2, 0);
        low.rule(1, 0, 3, 0);
        due("15: the least value of all", low.must(0, 9), -3564);
    }

    private static void mustNoSuch() {
        bad("15: thing 3", x -> x.must(3, 0));
        bad("15: thing -1", x -> x.must(-1, 0));
        bad("15: least thing", x -> x.must(LEAST, 0));
        bad("15: greatest thing", x -> x.must(GREATEST, 0));
        refused("15: full, thing 4", States::full, x -> x.must(4, 0), BAD);
    }

    // ---- Promise 16: The least or greatest number of THE SPAN; NONE: there is no such end. BAD

    private static void spanNoEnds() {
        RulePrices x = alike(1, 5, 9);
        due("16: all of it, least", x.span(0, false), 0);
        due("16: all of it, greatest", x.span(0, true), NONE);
        x.set(1, 0, -5);
        due("16: none of it, least", x.span(0, false), NONE);
        due("16: none of it, greatest", x.span(0, true), 0);
        x.set(1, 0, 0);
        due("16: of no worth, least", x.span(0, false), NONE);
        due("16: of no worth, greatest", x.span(0, true), 0);
        x.set(2, 0, 0);
        due("16: of which none can be, least", x.span(0, false), NONE);
        due("16: of which none can be, greatest", x.span(0, true), NONE);
        RulePrices shut = alike(1, 5, 9);
        addSum(shut, 0, 1);
        due("16: that never fits, least", shut.span(0, false), NONE);
        due("16: that never fits, greatest", shut.span(0, true), NONE);
        refused("16: none changes nothing", States::mixed, y -> y.span(2, false), NONE);
    }

    /** Also beyond -99 .. 99: one of THING 0 stands against 27 of the others, worth 2673. */
    private static void spanFarEnds() {
        RulePrices against = alike(1, 99, 1);
        RulePrices needed = alike(1, -99, 1);
        for (int t = 1; t < 4; t++) {
            against.thing(99, 9);
            against.rule(2, 0, t, 0);
            needed.thing(99, 9);
            int rule = needed.rule(0, 0, 0, 0);
            needed.amount(rule, 0, -9);
            needed.amount(rule, t, 1);
        }
        due("16: none of it against all", against.first(0), 0);
        due("16: greatest of it", against.span(0, true), 2673);
        due("16: no least of it", against.span(0, false), NONE);
        due("16: one of it is needed", needed.first(0), 1);
        due("16: least of it", needed.span(0, false), -2673);
        due("16: no greatest of it", needed.span(0, true), NONE);
    }

    private static void spanNoSuch() {
        due("16: of the last", alike(4, 1, 9).span(3, false), 0);
        bad("16: thing 3, least", x -> x.span(3, false));
        bad("16: thing 3, greatest", x -> x.span(3, true));
        bad("16: thing -1, least", x -> x.span(-1, false));
        bad("16: thing -1, greatest", x -> x.span(-1, true));
        bad("16: least thing", x -> x.span(LEAST, false));
        bad("16: greatest thing", x -> x.span(GREATEST, true));
        refused("16: full, thing 4", States::full, x -> x.span(4, true), BAD);
    }

    // ---- Promise 17: There are k of a THING in THE PLAN that is PUT: how many there were. BAD: not 0 .. 9

    private static void putCount() {
        RulePrices x = alike(1, 1, 0);
        due("17: 9, above a most of 0", x.put(0, 9), 0);
        due("17: 0", x.put(0, 0), 9);
        due("17: 0 again", x.put(0, 9), 0);
        bad("17: -1", y -> y.put(0, -1));
        bad("17: 10", y -> y.put(0, 10));
        bad("17: least", y -> y.put(0, LEAST));
        bad("17: greatest", y -> y.put(0, GREATEST));
    }

    private static void putNoSuch() {
        due("17: of the last", States.full().put(3, 0), 2);
        bad("17: thing 3", x -> x.put(3, 0));
        bad("17: thing -1", x -> x.put(-1, 0));
        bad("17: least thing", x -> x.put(LEAST, 0));
        bad("17: greatest thing", x -> x.put(GREATEST, 0));
        refused("17: full, thing 4", States::full, x -> x.put(4, 0), BAD);
    }

    private static void putAtFirst() {
        RulePrices x = States.mixed();
        x.put(3, 9);
        x.thing(1, 9);
        due("17: 0 at first, also after a refused one", x.put(3, 1), 0);
        x.set(2, 0, 0);
        due("17: what is put stays when a most is less", x.put(0, 1), 2);
    }

    // ---- Promise 18: The VALUE of THE PLAN that is PUT

    private static void worthEnds() {
        RulePrices x = alike(4, 99, 0);
        for (int t = 0; t < 4; t++) {
            x.put(t, 9);
        }
        due("18: greatest, above every most", x.worth(), 3564);
        for (int t = 0; t < 4; t++) {
            x.set(1, t, -99);
        }
        due("18: least", x.worth(), -3564);
        addSum(x, 0, 9, 9, 9, 9);
        due("18: also what breaks a rule", x.worth(), -3564);
    }

    // ---- Promise 19: The first RULE that it is not as; 100 and the first THING above its MOST; NONE

    private static void brokenMost() {
        RulePrices x = alike(4, 1, 3);
        for (int t = 3; t >= 0; t--) {
            x.put(t, 3);
            due("19: 3 of " + t + ", its most", x.broken(), t == 3 ? NONE : 101 + t);
            x.put(t, 4);
            due("19: 4 of " + t, x.broken(), 100 + t);
        }
    }

    private static void brokenMostAheadOfRules() {
        RulePrices x = alike(4, 1, 3);
        addSum(x, 0, 1, 1, 1, 1);
        x.put(0, 1);
        due("19: the rule", x.broken(), 0);
        x.put(3, 4);
        due("19: the last thing, ahead of rule 0", x.broken(), 103);
        x.put(3, 3);
        due("19: the rule again", x.broken(), 0);
    }

    private static void brokenFirstRule() {
        RulePrices x = alike(2, 1, 9);
        addSum(x, 8, 1, 1);
        x.rule(1, 0, 1, 1);
        x.rule(2, 0, 1, 2);
        x.put(0, 4);
        x.put(1, 4);
        due("19: sum 8 of 8, not both 4 of 2", x.broken(), 2);
        x.put(0, 5);
        due("19: sum 9 of 8", x.broken(), 0);
        x.on(0, false);
        due("19: sum off, apart 1 of 1", x.broken(), 2);
        x.put(1, 3);
        due("19: apart 2 of 1", x.broken(), 1);
        x.on(1, false);
        due("19: apart off", x.broken(), 2);
        x.on(2, false);
        due("19: all off", x.broken(), NONE);
    }

    private static void brokenLastRule() {
        RulePrices x = alike(1, 1, 9);
        for (int r = 0; r < 5; r++) {
            addSum(x, 9, 1);
        }
        x.rule(2, 0, 0, 8);
        x.put(0, 8);
        due("19: at the limit of rule 5", x.broken(), NONE);
        x.put(0, 9);
        due("19: above the limit of rule 5", x.broken(), 5);
    }

    private static void brokenNone() {
        due("19: nothing is put", alike(4, -99, 0).broken(), NONE);
        RulePrices x = alike(4, 1, 9);
        for (int t = 0; t < 4; t++) {
            x.put(t, 9);
        }
        addSum(x, 324, 9, 9, 9, 9);
        due("19: a sum of 324 is at most 324", x.broken(), NONE);
        x.set(0, 0, 323);
        due("19: and above 323", x.broken(), 0);
    }

    // ---- Promise 20: THE SHARE VALUE: n, d

    private static void dueFraction(String of, long n, long d, long wantN, long wantD) {
        due(of, n, wantN);
        due(of + ", below", d, wantD);
    }

    private static void dueShare(String of, RulePrices x, long n, long d) {
        dueFraction("20: " + of, x.share(false), x.share(true), n, d);
    }

    private static void shareEnds() {
        dueShare("greatest", alike(4, 99, 9), 3564, 1);
        dueShare("never below 0", alike(4, -99, 9), 0, 1);
        dueShare("of no worth", alike(4, 0, 9), 0, 1);
        dueShare("nothing may be", alike(4, 99, 0), 0, 1);
        dueShare("no things", noThings(), 0, 1);
        RulePrices x = alike(2, 1, 9);
        x.rule(2, 0, 1, 0);
        dueShare("not both does not count", x, 18, 1);
    }

    /** In lowest terms, d above 0. */
    private static void shareLowestTerms() {
        RulePrices x = alike(1, 6, 9);
        addSum(x, 1, 9);
        dueShare("6/9", x, 2, 3);
        x.set(0, 0, 3);
        dueShare("18/9", x, 2, 1);
        x.set(0, 0, 0);
        dueShare("0/9", x, 0, 1);
        x.set(0, 0, 80);
        dueShare("480/9", x, 160, 3);
        x.set(0, 0, 81);
        dueShare("all of it, at the limit", x, 54, 1);
        x.set(0, 0, 82);
        dueShare("all of it, below the limit", x, 54, 1);
    }

    // ---- Promise 21: THE SHARE PRICE: n, d; of one that is OFF 0, 1. BAD: also KIND 2

    private static void dueSharePrice(String of, RulePrices x, int rule, long n, long d) {
        dueFraction("21: " + of, x.sharePrice(rule, false), x.sharePrice(rule, true), n, d);
    }

    private static void sharePriceOfOff() {
        RulePrices x = alike(1, 6, 9);
        addSum(x, 1, 9);
        dueSharePrice("on", x, 0, 2, 3);
        x.on(0, false);
        dueSharePrice("off", x, 0, 0, 1);
        x.thing(0, 9);
        x.rule(1, 0, 1, 2);
        x.set(1, 1, -1);
        dueSharePrice("apart, on", x, 1, 1, 1);
        x.on(1, false);
        dueSharePrice("apart, off", x, 1, 0, 1);
    }

    private static void sharePriceOfNotBoth() {
        bad("21: not both", x -> x.sharePrice(2, false));
        bad("21: not both, below", x -> x.sharePrice(2, true));
        refused("21: not both that is off", States::full, x -> x.sharePrice(5, false), BAD);
        refused("21: not both that is off, below", States::full, x -> x.sharePrice(5, true), BAD);
    }

    private static void sharePriceNoSuch() {
        bad("21: rule 4", x -> x.sharePrice(4, false));
        bad("21: rule 4, below", x -> x.sharePrice(4, true));
        bad("21: rule -1", x -> x.sharePrice(-1, false));
        bad("21: rule -1, below", x -> x.sharePrice(-1, true));
        bad("21: least", x -> x.sharePrice(LEAST, false));
        bad("21: greatest", x -> x.sharePrice(GREATEST, true));
        refused("21: full, rule 6", States::full, x -> x.sharePrice(6, false), BAD);
    }

    /** For a LIMIT that is more, not less: at a bend the price is the one behind it. */
    private static void sharePriceAtBends() {
        RulePrices x = alike(1, 6, 1);
        x.thing(1, 1);
        addSum(x, 0, 3, 1);
        dueSharePrice("at 0", x, 0, 2, 1);
        x.set(0, 0, 2);
        dueSharePrice("at 2, before the bend", x, 0, 2, 1);
        x.set(0, 0, 3);
        dueSharePrice("at 3, the bend", x, 0, 1, 1);
        x.set(0, 0, 4);
        dueSharePrice("at 4, the last bend", x, 0, 0, 1);
        x.set(0, 0, 5);
        dueSharePrice("at 5", x, 0, 0, 1);
    }

    /** Prices 3, 2, 1 and 0, one after the other: each bend changes the price by just 1. */
    private static void sharePriceAtWholeBends() {
        RulePrices x = alike(1, 3, 1);
        x.thing(2, 1);
        x.thing(1, 1);
        addSum(x, 0, 1, 1, 1);
        for (int limit = 0; limit < 4; limit++) {
            x.set(0, 0, limit);
            dueSharePrice("from 3 down, at " + limit, x, 0, 3 - limit, 1);
            due("22: from 3 down, at " + limit, x.holds(0), limit < 3 ? 1 : 400);
        }
        x.set(1, 0, 1);
        x.set(1, 2, 3);
        for (int limit = 0; limit < 4; limit++) {
            x.set(0, 0, limit);
            dueSharePrice("the last worth most, at " + limit, x, 0, 3 - limit, 1);
        }
    }

    /** Also beyond its bounds: a LIMIT of 999 or 9 has a price too, and it holds. */
    private static void sharePriceBeyondBounds() {
        RulePrices x = alike(1, 1, 9);
        x.thing(-5, 9);
        x.rule(0, 0, 0, 999);
        x.rule(1, 0, 1, 9);
        dueSharePrice("sum of 999", x, 0, 0, 1);
        dueSharePrice("apart 9", x, 1, 0, 1);
        due("22: sum of 999", x.holds(0), 400);
        due("22: apart 9", x.holds(1), 400);
        x.set(0, 1, 8);
        dueSharePrice("apart 8", x, 1, 1, 1);
        due("22: apart 8", x.holds(1), 1);
        x.set(0, 1, 0);
        due("22: apart 0", x.holds(1), 9);
    }

    // ---- Promise 22: The greatest u of 0 .. 400. BAD: also KIND 2. (400 of one that is OFF.)

    private static void holdsEnds() {
        RulePrices far = alike(4, 1, 9);
        addSum(far, 0, 9, 9, 9, 9);
        due("22: 324 at a price", far.holds(0), 324);
        far.set(0, 0, 323);
        due("22: 1 at a price", far.holds(0), 1);
        far.set(0, 0, 324);
        due("22: 400 at no price", far.holds(0), 400);
        RulePrices half = alike(1, 1, 1);
        addSum(half, 0, 1);
        addSum(half, 1, 2);
        due("22: up to a half", half.holds(0), 0);
        half.set(0, 1, 2);
        due("22: up to one", half.holds(0), 1);
        half.set(2, 0, 9);
        half.set(0, 1, 3);
        due("22: up to one and a half", half.holds(0), 1);
        due("22: where no thing is", noThings().holds(0), 400);
    }

    private static void holdsOfOff() {
        RulePrices x = alike(1, 6, 9);
        addSum(x, 1, 9);
        due("22: on", x.holds(0), 80);
        x.on(0, false);
        due("22: off", x.holds(0), 400);
    }

    private static void holdsOfNotBoth() {
        bad("22: not both", x -> x.holds(2));
        refused("22: not both that is off", States::full, x -> x.holds(5), BAD);
    }

    private static void holdsNoSuch() {
        due("22: the last", States.mixed().holds(3), 400);
        bad("22: rule 4", x -> x.holds(4));
        bad("22: rule -1", x -> x.holds(-1));
        bad("22: least", x -> x.holds(LEAST));
        bad("22: greatest", x -> x.holds(GREATEST));
        refused("22: full, rule 6", States::full, x -> x.holds(6), BAD);
    }

    // ---- Promise 23: How much THE SHARE VALUE is above THE VALUE: n, d

    private static void dueGap(String of, RulePrices x, long n, long d) {
        dueFraction("23: " + of, x.gap(false), x.gap(true), n, d);
    }

    private static void gapEnds() {
        dueGap("none", alike(4, 99, 9), 0, 1);
        RulePrices x = alike(1, 6, 9);
        addSum(x, 8, 9);
        dueGap("48/9", x, 16, 3);
        x.set(0, 0, 9);
        dueGap("none at a whole one", x, 0, 1);
        x.set(0, 0, 12);
        dueGap("18/9", x, 2, 1);
        RulePrices great = alike(2, 99, 9);
        great.rule(2, 0, 1, 0);
        dueGap("where not both counts", great, 891, 1);
    }

    // ---- Promise 24: told. BAD

    private static void toldCounts() {
        due("24: things of none", new RulePrices().told(0), 0);
        due("24: rules of none", new RulePrices().told(1), 0);
        due("24: on of none", new RulePrices().told(2), 0);
        RulePrices x = States.full();
        due("24: things of all", x.told(0), 4);
        due("24: rules of all", x.told(1), 6);
        due("24: on, one is off", x.told(2), 5);
        for (int r = 0; r < 6; r++) {
            x.on(r, false);
        }
        due("24: none is on", x.told(2), 0);
        due("24: those that are off are rules too", x.told(1), 6);
        x.on(5, true);
        due("24: the last is on", x.told(2), 1);
    }

    private static void toldOfRules() {
        int[] kinds = {0, 1, 2, 0, 1, 2};
        int[] limits = {9, 1, 1, 5, 0, 0};
        RulePrices x = States.full();
        for (int r = 0; r < 6; r++) {
            due("24: kind of " + r, x.told(10 + r), kinds[r]);
            due("24: limit of " + r, x.told(20 + r), limits[r]);
        }
        bad("24: kind of 4", y -> y.told(14));
        bad("24: limit of 4", y -> y.told(24));
        refused("24: full, kind of 6", States::full, y -> y.told(16), BAD);
        refused("24: full, limit of 6", States::full, y -> y.told(26), BAD);
    }

    private static void toldOfThings() {
        int[] worths = {7, 3, -2, 6};
        int[] mosts = {2, 1, 2, 2};
        RulePrices x = States.full();
        for (int t = 0; t < 4; t++) {
            due("24: worth of " + t, x.told(30 + t), worths[t]);
            due("24: most of " + t, x.told(40 + t), mosts[t]);
        }
        bad("24: worth of 3", y -> y.told(33));
        bad("24: most of 3", y -> y.told(43));
        refused("24: full, worth of 4", States::full, y -> y.told(34), BAD);
        refused("24: full, most of 4", States::full, y -> y.told(44), BAD);
    }

    /** All that stands between and beyond the rows, also of an object that is full. */
    private static void toldBad() {
        int[][] gaps = {{-60, -1}, {3, 9}, {16, 19}, {26, 29}, {34, 39}, {44, 120}};
        RulePrices x = States.full();
        for (int[] gap : gaps) {
            for (int what = gap[0]; what <= gap[1]; what++) {
                due("24: full, " + what, x.told(what), BAD);
            }
        }
        bad("24: -1", y -> y.told(-1));
        bad("24: 3", y -> y.told(3));
        bad("24: 50", y -> y.told(50));
        bad("24: least", y -> y.told(LEAST));
        bad("24: greatest", y -> y.told(GREATEST));
    }
}
