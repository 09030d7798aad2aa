import java.util.function.Supplier;
import java.util.function.ToLongFunction;

/** Objects in which the bounds are tried, and the try of a call that must be refused there. */
final class States {
    private States() {
    }

    static RulePrices empty() {
        return new RulePrices();
    }

    /** THINGS 0 to 2 and RULES 0 to 3: room for more of both, each KIND, one RULE OFF, a plan PUT. */
    static RulePrices mixed() {
        RulePrices x = new RulePrices();
        x.thing(5, 3);
        x.thing(4, 3);
        x.thing(-1, 2);
        x.rule(0, 0, 0, 10);
        x.amount(0, 0, 3);
        x.amount(0, 1, 2);
        x.amount(0, 2, -2);
        x.rule(1, 0, 1, 1);
        x.rule(2, 0, 1, 1);
        x.rule(0, 0, 0, 4);
        x.amount(3, 0, 1);
        x.amount(3, 1, 1);
        x.on(3, false);
        x.put(0, 2);
        x.put(1, 1);
        x.put(2, 1);
        return x;
    }

    /** THINGS 0 to 3 and RULES 0 to 5, as many as there can be; RULE 5 is OFF. */
    static RulePrices full() {
        RulePrices x = new RulePrices();
        x.thing(7, 2);
        x.thing(3, 1);
        x.thing(-2, 2);
        x.thing(6, 2);
        x.rule(0, 0, 0, 9);
        x.rule(1, 0, 1, 1);
        x.rule(2, 0, 3, 1);
        x.rule(0, 0, 0, 5);
        x.rule(1, 3, 2, 0);
        x.rule(2, 1, 1, 0);
        for (int t = 0; t < 4; t++) {
            x.amount(0, t, 4 - t);
            x.amount(3, t, 2 * t - 3);
        }
        x.on(5, false);
        x.put(0, 1);
        x.put(3, 2);
        return x;
    }

    /** What it has found out is kept: a refused call must not spoil that either. */
    private static RulePrices asked(RulePrices x) {
        x.value();
        x.share(false);
        return x;
    }

    static void refused(
            Check check, String call, Supplier<RulePrices> made, ToLongFunction<RulePrices> tried, long want) {
        RulePrices x = made.get();
        RulePrices known = asked(made.get());
        check.due(call, tried.applyAsLong(x), want);
        check.due(call + " of one that was asked", tried.applyAsLong(known), want);
        String before = Answers.of(made.get());
        check.due(call + ": all answers after it", Answers.of(x), before);
        check.due(call + ": all answers of one that was asked", Answers.of(known), before);
    }
}
