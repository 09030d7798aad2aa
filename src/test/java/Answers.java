/**
 * All that an object answers, as one text. Two objects with the same text are in the same state, as far
 * as calls can tell; some 250 calls, so that with its setting up an object stays under its 512.
 */
final class Answers {
    private final RulePrices x;
    private final int things;
    private final int rules;
    private final StringBuilder text = new StringBuilder();

    private Answers(RulePrices x) {
        this.x = x;
        things = x.told(0);
        rules = x.told(1);
    }

    static String of(RulePrices x) {
        Answers answers = new Answers(x);
        answers.askOfAll();
        answers.askOfThings();
        answers.askOfRules();
        answers.askByChanging();
        return answers.text.toString();
    }

    private void note(String call, long answer) {
        text.append(call).append('=').append(answer).append(' ');
    }

    private void askOfAll() {
        note("value", x.value());
        note("best", x.counted(0));
        note("fitting", x.counted(1));
        note("all", x.counted(2));
        note("worth", x.worth());
        note("broken", x.broken());
        note("share", x.share(false));
        note("shareBelow", x.share(true));
        note("gap", x.gap(false));
        note("gapBelow", x.gap(true));
        for (int what = 0; what < 50; what++) {
            note("told" + what, x.told(what));
        }
    }

    private void askOfThings() {
        for (int t = 0; t < things; t++) {
            note("first" + t, x.first(t));
            note("fast" + t, x.fast(t));
            note("more" + t, x.more(t));
            note("least" + t, x.span(t, false));
            note("greatest" + t, x.span(t, true));
            for (int k = 0; k <= x.told(40 + t); k++) {
                note("must" + t + "," + k, x.must(t, k));
            }
        }
    }

    private void askOfRules() {
        for (int r = 0; r < rules; r++) {
            note("priceLess" + r, x.price(r, -1));
            note("priceMore" + r, x.price(r, 1));
            note("weight" + r, x.weight(r));
            note("rank" + r, x.rank(r));
            note("sharePrice" + r, x.sharePrice(r, false));
            note("sharePriceBelow" + r, x.sharePrice(r, true));
            note("holds" + r, x.holds(r));
        }
    }

    /** What only a change tells: AMOUNTS, what is PUT, which RULES are ON. Each is put back. */
    private void askByChanging() {
        for (int t = 0; t < things; t++) {
            int were = x.put(t, 0);
            note("put" + t, were);
            x.put(t, were);
        }
        for (int r = 0; r < rules; r++) {
            int was = x.on(r, true);
            note("on" + r, was);
            x.on(r, was == 1);
            if (x.told(10 + r) == 0) {
                noteAmounts(r);
            }
        }
    }

    private void noteAmounts(int r) {
        for (int t = 0; t < things; t++) {
            int was = x.amount(r, t, 0);
            note("amount" + r + "," + t, was);
            x.amount(r, t, was);
        }
    }
}
