import java.util.Arrays;

/**
 * What more is worth: plans of few things under rules, in whole numbers (every plan is looked at)
 * and in shares (exact fractions, from the corners of the prices that rules may bear).
 */
public final class RulePrices {
    public static final int NONE = -1000000, BAD = -1000001, FULL = -1000002;

    private static final int MOST_THINGS = 4;
    private static final int MOST_RULES = 6;
    private static final int GREATEST_WORTH = 99;
    private static final int GREATEST_MOST = 9;
    private static final int GREATEST_AMOUNT = 9;
    private static final int GREATEST_SUM_LIMIT = 999;
    private static final int GREATEST_PAIR_LIMIT = 9;
    private static final int SUM = 0, APART = 1, NOT_BOTH = 2;
    private static final int TOO_MANY_OF = 100;
    private static final int FARTHEST = 400;

    private final Walk walk;
    private final Book book;
    private final Survey survey;
    private final Corners corners;
    private final int[] putCounts;
    private boolean surveyIsFresh;
    private boolean cornersAreFresh;

    public RulePrices() {
        walk = new Walk();
        book = walk.book;
        survey = new Survey();
        corners = new Corners();
        putCounts = new int[MOST_THINGS];
    }

    public int thing(int worth, int most) {
        if (!isWorth(worth) || !isCount(most)) {
            return BAD;
        }
        if (book.things >= MOST_THINGS) {
            return FULL;
        }
        markChanged();
        return book.addThing(worth, most);
    }

    public int rule(int kind, int a, int b, int limit) {
        if (kind < SUM || kind > NOT_BOTH || !isLimit(kind, limit)) {
            return BAD;
        }
        if (kind != SUM && !(isThing(a) && isThing(b))) {
            return BAD;
        }
        if (book.rules >= MOST_RULES) {
            return FULL;
        }
        markChanged();
        int number = book.addRule(kind, limit);
        if (kind != SUM) {
            book.pair(number, a, b);
        }
        return number;
    }

    public int amount(int rule, int thing, int v) {
        if (!isRule(rule) || book.kinds[rule] != SUM || !isThing(thing)) {
            return BAD;
        }
        if (v < -GREATEST_AMOUNT || v > GREATEST_AMOUNT) {
            return BAD;
        }
        return replace(book.factors, rule * MOST_THINGS + thing, v);
    }

    public int on(int rule, boolean on) {
        if (!isRule(rule)) {
            return BAD;
        }
        boolean was = book.ons[rule];
        book.ons[rule] = on;
        markChanged();
        return was ? 1 : 0;
    }

    public int set(int what, int k, int v) {
        switch (what) {
            case 0:
                return isRule(k) && isLimit(book.kinds[k], v) ? replace(book.limits, k, v) : BAD;
            case 1:
                return isThing(k) && isWorth(v) ? replace(book.worths, k, v) : BAD;
            case 2:
                return isThing(k) && isCount(v) ? replace(book.mosts, k, v) : BAD;
            default:
                return BAD;
        }
    }

    // ---- whole numbers

    public int value() {
        return freshSurvey().greatest;
    }

    public int counted(int those) {
        switch (those) {
            case 0:
                return freshSurvey().best;
            case 1:
                return freshSurvey().fitting;
            case 2:
                return freshSurvey().all;
            default:
                return BAD;
        }
    }

    public int first(int thing) {
        return isThing(thing) ? freshSurvey().firstBest[thing] : BAD;
    }

    public int fast(int thing) {
        if (!isThing(thing)) {
            return BAD;
        }
        return freshSurvey().isFast[thing] ? 1 : 0;
    }

    public int price(int rule, int u) {
        if (!isRule(rule) || !isLimit(book.kinds[rule], (long) book.limits[rule] + u)) {
            return BAD;
        }
        if (!book.ons[rule]) {
            return 0;
        }
        int now = freshSurvey().greatest;
        walk.begin();
        walk.loosen(rule, u);
        return walk.greatestFitting() - now;
    }

    public int weight(int rule) {
        return isRule(rule) ? freshSurvey().gainWithout(rule) : BAD;
    }

    public int rank(int k) {
        if (!isRule(k)) {
            return BAD;
        }
        Survey seen = freshSurvey();
        for (int r = 0; r < book.rules; r++) {
            if (seen.rulesAhead(r, book.rules) == k) {
                return r;
            }
        }
        return BAD;
    }

    public int more(int thing) {
        if (!isThing(thing) || book.mosts[thing] >= GREATEST_MOST) {
            return BAD;
        }
        int now = freshSurvey().greatest;
        walk.begin();
        walk.allowOneMore(thing);
        return walk.greatestFitting() - now;
    }

    public int must(int thing, int k) {
        if (!isThing(thing) || k < 0 || k > book.mosts[thing]) {
            return BAD;
        }
        return freshSurvey().greatestWith(thing, k);
    }

    public int span(int thing, boolean greatest) {
        if (!isThing(thing)) {
            return BAD;
        }
        Survey seen = freshSurvey();
        return greatest ? seen.spanTop(thing, book.worths[thing]) : seen.spanBottom(thing, book.worths[thing]);
    }

    // ---- a plan that is told

    public int put(int thing, int k) {
        if (!isThing(thing) || !isCount(k)) {
            return BAD;
        }
        int was = putCounts[thing];
        putCounts[thing] = k;
        return was;
    }

    public int worth() {
        walk.begin();
        walk.goTo(putCounts);
        return walk.sum;
    }

    public int broken() {
        for (int t = 0; t < book.things; t++) {
            if (putCounts[t] > book.mosts[t]) {
                return TOO_MANY_OF + t;
            }
        }
        walk.begin();
        walk.goTo(putCounts);
        return walk.firstOver(0);
    }

    // ---- shares

    public long share(boolean below) {
        Corners found = freshCorners();
        int corner = found.leastBound();
        return inLowestTerms(found.tops[corner], found.belows[corner], below);
    }

    public long sharePrice(int rule, boolean below) {
        if (!isRule(rule) || book.kinds[rule] == NOT_BOTH) {
            return BAD;
        }
        if (!book.ons[rule]) {
            return below ? 1 : 0;
        }
        Corners found = freshCorners();
        int corner = found.leastBoundFlattest(rule);
        return inLowestTerms(found.slope(corner, rule), found.belows[corner], below);
    }

    public int holds(int rule) {
        if (!isRule(rule) || book.kinds[rule] == NOT_BOTH) {
            return BAD;
        }
        if (!book.ons[rule]) {
            return FARTHEST;
        }
        Corners found = freshCorners();
        return found.reach(found.leastBoundFlattest(rule), rule);
    }

    public long gap(boolean below) {
        Corners found = freshCorners();
        int corner = found.leastBound();
        long d = found.belows[corner];
        return inLowestTerms(found.tops[corner] - d * freshSurvey().greatest, d, below);
    }

    public int told(int what) {
        if (what < 0) {
            return BAD;
        }
        int k = what % 10;
        switch (what / 10) {
            case 0:
                return toldCount(k);
            case 1:
                return isRule(k) ? book.kinds[k] : BAD;
            case 2:
                return isRule(k) ? book.limits[k] : BAD;
            case 3:
                return isThing(k) ? book.worths[k] : BAD;
            case 4:
                return isThing(k) ? book.mosts[k] : BAD;
            default:
                return BAD;
        }
    }

    private int toldCount(int what) {
        switch (what) {
            case 0:
                return book.things;
            case 1:
                return book.rules;
            case 2:
                return book.rulesOn();
            default:
                return BAD;
        }
    }

    private boolean isThing(int thing) {
        return thing >= 0 && thing < book.things;
    }

    private boolean isRule(int rule) {
        return rule >= 0 && rule < book.rules;
    }

    private static boolean isWorth(int v) {
        return v >= -GREATEST_WORTH && v <= GREATEST_WORTH;
    }

    private static boolean isCount(int v) {
        return v >= 0 && v <= GREATEST_MOST;
    }

    /** Takes a long, so that a LIMIT and what is added to it can't wrap around into the bounds. */
    private static boolean isLimit(int kind, long v) {
        return v >= 0 && v <= (kind == SUM ? GREATEST_SUM_LIMIT : GREATEST_PAIR_LIMIT);
    }

    /** For rows of the book alone: what was found out about it is no longer true afterwards. */
    private int replace(int[] row, int at, int v) {
        int was = row[at];
        row[at] = v;
        markChanged();
        return was;
    }

    private void markChanged() {
        surveyIsFresh = false;
        cornersAreFresh = false;
    }

    private Survey freshSurvey() {
        if (!surveyIsFresh) {
            survey.lookAtAll(walk, book.things);
            surveyIsFresh = true;
        }
        return survey;
    }

    private Corners freshCorners() {
        if (!cornersAreFresh) {
            corners.find(book);
            cornersAreFresh = true;
        }
        return corners;
    }

    private static long inLowestTerms(long n, long d, boolean below) {
        long common = commonDivisor(Math.abs(n), d);
        if (common == 0) {
            return below ? 1 : 0;
        }
        return (below ? d : n) / common;
    }

    /** A long needs fewer than a hundred of Euclid's steps. */
    private static long commonDivisor(long a, long b) {
        for (int step = 0; step < 200 && b != 0; step++) {
            long rest = a % b;
            a = b;
            b = rest;
        }
        return a;
    }

    /** The THINGS and RULES as they were told. */
    private static final class Book {
        int things;
        int rules;
        final int[] worths = new int[MOST_THINGS];
        final int[] mosts = new int[MOST_THINGS];
        final int[] kinds = new int[MOST_RULES];
        final int[] lefts = new int[MOST_RULES];
        final int[] rights = new int[MOST_RULES];
        final int[] limits = new int[MOST_RULES];
        final boolean[] ons = new boolean[MOST_RULES];
        /** What one of a THING adds to a RULE's sum; APART is a sum too, with 1 and -1. */
        final int[] factors = new int[MOST_RULES * MOST_THINGS];

        int addThing(int itsWorth, int itsMost) {
            int number = things;
            worths[number] = itsWorth;
            mosts[number] = itsMost;
            things++;
            return number;
        }

        int addRule(int kind, int limit) {
            int number = rules;
            kinds[number] = kind;
            limits[number] = limit;
            ons[number] = true;
            rules++;
            return number;
        }

        void pair(int number, int a, int b) {
            lefts[number] = a;
            rights[number] = b;
            if (kinds[number] == APART) {
                // added, not set: of a THING and itself the two leave nothing
                factors[number * MOST_THINGS + a] += 1;
                factors[number * MOST_THINGS + b] -= 1;
            }
        }

        int rulesOn() {
            int count = 0;
            for (int r = 0; r < rules; r++) {
                if (ons[r]) {
                    count++;
                }
            }
            return count;
        }

        boolean countsForShares(int r) {
            return ons[r] && kinds[r] != NOT_BOTH;
        }
    }

    /**
     * Goes through all PLANS, least in THING 0 first, so that the first of equals is THE FIRST.
     * It has LIMITS and MOSTS of its own, so that others can be tried without a change of the book.
     */
    private static final class Walk {
        /** Above every sum that a plan can have in a RULE. */
        private static final int NO_LIMIT = 1000000;

        /** Made here and not handed in, as a constructor hands out nothing of the object that it makes. */
        final Book book = new Book();
        private final int[] limits = new int[MOST_RULES];
        private final int[] mosts = new int[MOST_THINGS];
        private final int[] loads = new int[MOST_RULES];
        final int[] counts = new int[MOST_THINGS];
        int sum;

        void begin() {
            for (int r = 0; r < book.rules; r++) {
                limits[r] = book.ons[r] ? book.limits[r] : NO_LIMIT;
                loads[r] = 0;
            }
            for (int t = 0; t < book.things; t++) {
                mosts[t] = book.mosts[t];
                counts[t] = 0;
            }
            sum = 0;
        }

        void loosen(int rule, int u) {
            limits[rule] += u;
        }

        void allowOneMore(int thing) {
            mosts[thing]++;
        }

        void goTo(int[] plan) {
            for (int t = 0; t < book.things; t++) {
                shift(t, plan[t] - counts[t]);
            }
        }

        int plans() {
            int product = 1;
            for (int t = 0; t < book.things; t++) {
                product *= mosts[t] + 1;
            }
            return product;
        }

        void step() {
            for (int t = book.things - 1; t >= 0; t--) {
                if (counts[t] < mosts[t]) {
                    shift(t, 1);
                    return;
                }
                shift(t, -counts[t]);
            }
        }

        /** The sums go along with each step: to add them up anew for each plan would be slow. */
        private void shift(int thing, int by) {
            if (by == 0) {
                return;
            }
            counts[thing] += by;
            sum += by * book.worths[thing];
            for (int r = 0; r < book.rules; r++) {
                loads[r] += by * book.factors[r * MOST_THINGS + thing];
            }
        }

        /** The first RULE, of those from a number on, that the plan is not as; or NONE. */
        int firstOver(int from) {
            for (int r = from; r < book.rules; r++) {
                if (load(r) > limits[r]) {
                    return r;
                }
            }
            return NONE;
        }

        private int load(int r) {
            if (book.kinds[r] != NOT_BOTH) {
                return loads[r];
            }
            return Math.min(counts[book.lefts[r]], counts[book.rights[r]]);
        }

        /** Begins at 0, as nothing of all always FITS. */
        int greatestFitting() {
            int greatest = 0;
            for (int left = plans(); left > 0; left--) {
                if (sum > greatest && firstOver(0) == NONE) {
                    greatest = sum;
                }
                step();
            }
            return greatest;
        }
    }

    /** What one walk through all PLANS tells. */
    private static final class Survey {
        private static final int COUNTS = GREATEST_MOST + 1;

        private int things;
        int all;
        int fitting;
        int best;
        int greatest;
        final int[] firstBest = new int[MOST_THINGS];
        final boolean[] isFast = new boolean[MOST_THINGS];
        /** Of each THING and count the greatest VALUE that FITS; NONE, where there is none. */
        private final int[] withCount = new int[MOST_THINGS * COUNTS];
        /** The greatest VALUE of the plans that a RULE alone forbids; NONE, where there is none. */
        private final int[] forbiddenBy = new int[MOST_RULES];

        void lookAtAll(Walk walk, int thingCount) {
            things = thingCount;
            fitting = 0;
            best = 0;
            greatest = NONE;
            Arrays.fill(withCount, NONE);
            Arrays.fill(forbiddenBy, NONE);
            walk.begin();
            all = walk.plans();
            for (int i = 0; i < all; i++) {
                lookAt(walk);
                walk.step();
            }
        }

        private void lookAt(Walk walk) {
            int over = walk.firstOver(0);
            if (over == NONE) {
                noteFitting(walk.counts, walk.sum);
            } else if (walk.firstOver(over + 1) == NONE) {
                forbiddenBy[over] = Math.max(forbiddenBy[over], walk.sum);
            }
        }

        private void noteFitting(int[] counts, int sum) {
            fitting++;
            for (int t = 0; t < things; t++) {
                int at = t * COUNTS + counts[t];
                withCount[at] = Math.max(withCount[at], sum);
            }
            if (sum > greatest) {
                noteBetter(counts, sum);
            } else if (sum == greatest) {
                noteEqual(counts);
            }
        }

        private void noteBetter(int[] counts, int sum) {
            greatest = sum;
            best = 1;
            for (int t = 0; t < things; t++) {
                firstBest[t] = counts[t];
                isFast[t] = true;
            }
        }

        private void noteEqual(int[] counts) {
            best++;
            for (int t = 0; t < things; t++) {
                if (counts[t] != firstBest[t]) {
                    isFast[t] = false;
                }
            }
        }

        int greatestWith(int thing, int count) {
            return withCount[thing * COUNTS + count];
        }

        /** Without a RULE the plans that it alone forbids FIT too, and no others. */
        int gainWithout(int rule) {
            return Math.max(0, forbiddenBy[rule] - greatest);
        }

        int rulesAhead(int rule, int rules) {
            int own = gainWithout(rule);
            int ahead = 0;
            for (int r = 0; r < rules; r++) {
                int other = gainWithout(r);
                if (other > own || other == own && r < rule) {
                    ahead++;
                }
            }
            return ahead;
        }

        /** Only fewer of the THING can become better when it is worth less. */
        int spanBottom(int thing, int itsWorth) {
            int count = firstBest[thing];
            int bottom = NONE;
            for (int fewer = 0; fewer < count; fewer++) {
                if (greatestWith(thing, fewer) != NONE) {
                    int lead = restWith(thing, fewer, itsWorth) - restWith(thing, count, itsWorth);
                    bottom = Math.max(bottom, -Math.floorDiv(-lead, count - fewer));
                }
            }
            return bottom;
        }

        /** Only more of the THING can become better when it is worth more. */
        int spanTop(int thing, int itsWorth) {
            int count = firstBest[thing];
            int top = NONE;
            for (int greater = count + 1; greater < COUNTS; greater++) {
                if (greatestWith(thing, greater) != NONE) {
                    int lead = restWith(thing, count, itsWorth) - restWith(thing, greater, itsWorth);
                    int end = Math.floorDiv(lead, greater - count);
                    top = top == NONE ? end : Math.min(top, end);
                }
            }
            return top;
        }

        private int restWith(int thing, int count, int itsWorth) {
            return greatestWith(thing, count) - count * itsWorth;
        }
    }

    /**
     * THE SHARE VALUE is the least bound that prices of the RULES prove: each LIMIT at its price, and
     * each MOST at what one of the THING is worth beyond the prices. Prices that just pay for some
     * THINGS with as many RULES are the corners among them; the least bound is at one of these,
     * whatever the LIMITS are, and each bound grows with a LIMIT by that RULE's price. A long is wide
     * enough: belows stay under 2^17, slopes under 2^21, tops under 2^33, and two are multiplied at most.
     */
    private static final class Corners {
        /** Ways to choose as many of 6 RULES as of 4 THINGS: 4 of 10. */
        private static final int MOST_CORNERS = 210;

        private int size;
        /** The bounds are tops / belows, the prices slopes / belows, with belows above 0. */
        final long[] tops = new long[MOST_CORNERS];
        final long[] belows = new long[MOST_CORNERS];
        private final long[] slopes = new long[MOST_CORNERS * MOST_RULES];
        private final long[] cells = new long[MOST_THINGS * MOST_THINGS];
        private final long[] dues = new long[MOST_THINGS];

        void find(Book book) {
            size = 0;
            for (int paying = 0; paying < 1 << book.rules; paying++) {
                if (allCount(book, paying)) {
                    for (int paid = 0; paid < 1 << book.things; paid++) {
                        tryCorner(book, paying, paid);
                    }
                }
            }
        }

        private static boolean allCount(Book book, int chosen) {
            for (int r = 0; r < book.rules; r++) {
                if (has(chosen, r) && !book.countsForShares(r)) {
                    return false;
                }
            }
            return true;
        }

        private static boolean has(int chosen, int number) {
            return (chosen >> number & 1) != 0;
        }

        /** One row for each THING that is just paid for, one column for each RULE that pays. */
        private void writeEquations(Book book, int paying, int paid) {
            int row = 0;
            for (int t = 0; t < book.things; t++) {
                if (has(paid, t)) {
                    dues[row] = book.worths[t];
                    int column = 0;
                    for (int r = 0; r < book.rules; r++) {
                        if (has(paying, r)) {
                            cells[row * MOST_THINGS + column] = book.factors[r * MOST_THINGS + t];
                            column++;
                        }
                    }
                    row++;
                }
            }
        }

        private void tryCorner(Book book, int paying, int paid) {
            int width = Integer.bitCount(paying);
            if (Integer.bitCount(paid) != width || size >= MOST_CORNERS) {
                return;
            }
            writeEquations(book, paying, paid);
            long below = determinant(cells, width, 0, 0);
            if (below == 0 || !writePrices(paying, width, below)) {
                return;
            }
            belows[size] = Math.abs(below);
            tops[size] = boundAt(book, size);
            size++;
        }

        /** By Cramer's rule, as it leaves whole numbers; no price may be below 0. */
        private boolean writePrices(int paying, int width, long below) {
            int column = 0;
            for (int r = 0; r < MOST_RULES; r++) {
                long top = 0;
                if (has(paying, r)) {
                    swapDues(column, width);
                    top = determinant(cells, width, 0, 0);
                    swapDues(column, width);
                    column++;
                }
                if (below < 0) {
                    top = -top;
                }
                if (top < 0) {
                    return false;
                }
                slopes[size * MOST_RULES + r] = top;
            }
            return true;
        }

        private void swapDues(int column, int width) {
            for (int row = 0; row < width; row++) {
                int at = row * MOST_THINGS + column;
                long kept = cells[at];
                cells[at] = dues[row];
                dues[row] = kept;
            }
        }

        /** Along one row after the other: with at most 4 rows this is short and divides nothing. */
        private static long determinant(long[] cells, int width, int row, int usedColumns) {
            if (row >= width || row >= MOST_THINGS) {
                return 1;
            }
            long total = 0;
            long sign = 1;
            for (int column = 0; column < width; column++) {
                if (!has(usedColumns, column)) {
                    long cell = cells[row * MOST_THINGS + column];
                    if (cell != 0) {
                        total += sign * cell * determinant(cells, width, row + 1, usedColumns | 1 << column);
                    }
                    sign = -sign;
                }
            }
            return total;
        }

        private long boundAt(Book book, int corner) {
            long total = 0;
            for (int r = 0; r < book.rules; r++) {
                total += book.limits[r] * slope(corner, r);
            }
            for (int t = 0; t < book.things; t++) {
                long beyond = book.worths[t] * belows[corner];
                for (int r = 0; r < book.rules; r++) {
                    beyond -= book.factors[r * MOST_THINGS + t] * slope(corner, r);
                }
                total += book.mosts[t] * Math.max(0, beyond);
            }
            return total;
        }

        long slope(int corner, int rule) {
            return slopes[corner * MOST_RULES + rule];
        }

        /** Corner 0, of no prices at all, is always there. */
        int leastBound() {
            int least = 0;
            for (int i = 1; i < size; i++) {
                if (boundAbove(i, least) < 0) {
                    least = i;
                }
            }
            return least;
        }

        /** With a LIMIT that is a little more, the least bound is the one of these that grows least. */
        int leastBoundFlattest(int rule) {
            int least = 0;
            for (int i = 1; i < size; i++) {
                long above = boundAbove(i, least);
                if (above < 0 || above == 0 && slopeBelow(i, least, rule) > 0) {
                    least = i;
                }
            }
            return least;
        }

        /** How much u may be before a bound that grows less becomes the least one. */
        int reach(int from, int rule) {
            long farthest = FARTHEST;
            for (int i = 0; i < size; i++) {
                long flatter = slopeBelow(i, from, rule);
                if (flatter > 0) {
                    farthest = Math.min(farthest, boundAbove(i, from) / flatter);
                }
            }
            return (int) farthest;
        }

        /** How much a corner's bound is above another's, times both their belows. */
        private long boundAbove(int corner, int other) {
            return tops[corner] * belows[other] - tops[other] * belows[corner];
        }

        /** How much a corner's price is below another's, times both their belows. */
        private long slopeBelow(int corner, int other, int rule) {
            return slope(other, rule) * belows[corner] - slope(corner, rule) * belows[other];
        }
    }
}
