/**
 * A list of names, drawn by plans that are told as texts.
 *
 * Every row is made in a constructor and used again, so that no later call makes an object.
 * Sets of names (draws) and of clusters are held as bits.
 */
public final class DrawnList {
    public static final int NONE = -1, BAD = -2, NOT = -3, FULL = -4;

    private static final int LEAST_INT = 1 << 31;
    private static final long LEAST_LONG = 1L << 63;
    private static final int NAMES = 30;
    private static final int LAYERS = 4;
    private static final int CLUSTERS = 8;
    private static final int MARKS = 3;
    private static final int MOST_SIZE = 20;
    private static final int MOST_ANSWERS = 120;
    private static final int MOST_VALUE = 10000;
    private static final int LAST_DAY = 399;
    private static final int PLANS = 4;
    private static final int BYTES = 20;
    private static final int MOST_KNOWN = 30000;
    private static final int MOST_ROUNDS = 30;
    private static final int MOST_COST = 100;
    private static final int FIRST_COST = 5;
    private static final int MOST_PRICE = 800;
    private static final int SHEETS = 4;
    private static final int ITEMS = 90;
    private static final int FORM_BYTES = 0, FORM_SHORTS = 1, FORM_INTS = 2;
    private static final int FOUND_NULL = 1, FOUND_INDEX = 2, FOUND_CAST = 3, FOUND_STORE = 4, FOUND_SIZE = 5;

    private final Roll roll = new Roll();
    private final Answers answers = new Answers(roll);
    private final Plan[] plans = new Plan[PLANS];
    private final Sheet[] sheets = new Sheet[SHEETS];
    private final Weights weights = new Weights(roll);
    private final Journey journey = new Journey(roll);
    private final Fraction fraction = new Fraction();
    private final Fraction otherFraction = new Fraction();
    private int latestFinding;

    public DrawnList() {
        for (int p = 0; p < PLANS; p++) {
            plans[p] = new Plan(roll);
        }
        for (int s = 0; s < SHEETS; s++) {
            sheets[s] = new Sheet();
        }
    }

    // ---- names, answers

    public int name(int layer, int cluster, int size, int mark) {
        return roll.enter(layer, cluster, size, mark);
    }

    public int read(int s) {
        if (!isSheet(s)) {
            return BAD;
        }
        Sheet from = sheets[s];
        if (from.lost) {
            return findingOf(FOUND_NULL);
        }
        int entered = 0;
        for (int i = 0; i + 3 < from.length; i += 4) {
            int number = roll.enter(from.items[i], from.items[i + 1], from.items[i + 2], from.items[i + 3]);
            if (number < 0) {
                break;
            }
            entered++;
        }
        return entered;
    }

    public int about(int name, int what) {
        if (!roll.has(name)) {
            return BAD;
        }
        switch (what) {
            case 0:
                return roll.layer[name];
            case 1:
                return roll.cluster[name];
            case 2:
                return roll.size[name];
            case 3:
                return roll.mark[name];
            case 4:
                return roll.value[name];
            default:
                return BAD;
        }
    }

    public int answer(int name, int value, int day) {
        if (!roll.has(name) || !within(value, NONE, MOST_VALUE) || !within(day, 0, LAST_DAY)) {
            return BAD;
        }
        return answers.tell(name, value, day);
    }

    public int asOf(int day) {
        if (!within(day, 0, LAST_DAY)) {
            return BAD;
        }
        return answers.look(day);
    }

    public int many(int what, int of) {
        if (what == 0 && within(of, 0, LAYERS - 1)) {
            return Integer.bitCount(roll.layerBits[of]);
        }
        if (what == 1 && within(of, 0, CLUSTERS - 1)) {
            return Integer.bitCount(roll.clusterBits[of]);
        }
        if (what == 2 && within(of, 0, MARKS - 1)) {
            return Integer.bitCount(roll.markBits[of]);
        }
        if (what == 3 && of == 0) {
            return roll.count;
        }
        return BAD;
    }

    // ---- plans

    public int type(int plan, int b) {
        if (!isPlan(plan) || !within(b, 0, 255)) {
            return BAD;
        }
        return plans[plan].append(b);
    }

    public int wipe(int plan) {
        if (!isPlan(plan)) {
            return BAD;
        }
        return plans[plan].clear();
    }

    public int fault(int plan) {
        if (!isPlan(plan)) {
            return BAD;
        }
        return plans[plan].faultPlace;
    }

    public int can(int plan) {
        if (!isPlan(plan)) {
            return BAD;
        }
        return plans[plan].possibleWay() == null ? 0 : 1;
    }

    public long draws(int plan) {
        if (!isPlan(plan)) {
            return asLong(BAD);
        }
        Way way = plans[plan].possibleWay();
        return way == null ? asLong(NOT) : way.countWays();
    }

    public long share(int plan, int name, int what) {
        if (!isPlan(plan) || !roll.has(name) || !isAboveOrBelow(what)) {
            return asLong(BAD);
        }
        Way way = plans[plan].possibleWay();
        if (way == null) {
            return asLong(NOT);
        }
        way.shareOfOne(name, fraction);
        return fraction.told(what);
    }

    public long both(int plan, int a, int b, int what) {
        if (!isPlan(plan) || !roll.has(a) || !roll.has(b) || a == b || !isAboveOrBelow(what)) {
            return asLong(BAD);
        }
        Way way = plans[plan].possibleWay();
        if (way == null) {
            return asLong(NOT);
        }
        way.shareOfTwo(a, b, fraction);
        return fraction.told(what);
    }

    public int width(int plan, int what) {
        if (!isPlan(plan) || !within(what, 0, 1)) {
            return BAD;
        }
        Way way = plans[plan].possibleWay();
        if (way == null) {
            return NOT;
        }
        return what == 0 ? way.fewest() : way.most();
    }

    public int lots(int plan, int seed) {
        if (!isPlan(plan)) {
            return BAD;
        }
        Way way = plans[plan].possibleWay();
        if (way == null) {
            return NOT;
        }
        way.seed = seed;
        return way.drawByLots();
    }

    public int makes(int plan, int draw) {
        if (!isPlan(plan) || !roll.hasAll(draw)) {
            return BAD;
        }
        Way way = plans[plan].possibleWay();
        if (way == null) {
            return NOT;
        }
        return way.canMake(draw) ? 1 : 0;
    }

    // ---- sums

    public long sum(int plan, int draw, int what) {
        if (!isAboveOrBelow(what)) {
            return asLong(BAD);
        }
        int refusal = refusalOfDraw(plan, draw);
        if (refusal < 0) {
            return asLong(refusal);
        }
        addUp(plans[plan].possibleWay(), draw);
        return fraction.told(what);
    }

    public int silent(int draw) {
        if (!roll.hasAll(draw)) {
            return BAD;
        }
        return Integer.bitCount(draw & ~roll.valueBits);
    }

    public long spread(int plan, int what) {
        if (!isPlan(plan) || !isAboveOrBelow(what)) {
            return asLong(BAD);
        }
        if (!spreadOf(plan, fraction)) {
            return asLong(NOT);
        }
        return fraction.told(what);
    }

    public int wider(int plan, int other) {
        if (!isPlan(plan) || !isPlan(other)) {
            return BAD;
        }
        if (!spreadOf(plan, fraction) || !spreadOf(other, otherFraction)) {
            return NOT;
        }
        return fraction.compareWith(otherFraction);
    }

    public long edge(int plan, int what) {
        if (!isPlan(plan) || !within(what, 0, 1)) {
            return asLong(BAD);
        }
        if (plans[plan].possibleWay() instanceof LineWay line) {
            return edgeOf(line, what);
        }
        return asLong(NOT);
    }

    // ---- weights

    public int known(int what, int of, int sum) {
        if (!within(sum, 0, MOST_KNOWN)) {
            return BAD;
        }
        if (what == 0 && within(of, 0, LAYERS - 1)) {
            return swap(weights.layerSums, of, sum);
        }
        if (what == 1 && within(of, 0, MARKS - 1)) {
            return swap(weights.markSums, of, sum);
        }
        return BAD;
    }

    public int weight(int plan, int draw, int rounds, int name) {
        if (!within(rounds, 0, MOST_ROUNDS) || !roll.has(name)) {
            return BAD;
        }
        int refusal = refusalOfDraw(plan, draw);
        if (refusal < 0) {
            return refusal;
        }
        weights.lead(plans[plan].possibleWay(), draw, rounds);
        return weights.weight[name];
    }

    public int led(int plan, int draw, int rounds, int what) {
        if (!within(rounds, 0, MOST_ROUNDS) || !within(what, 0, 1)) {
            return BAD;
        }
        int refusal = refusalOfDraw(plan, draw);
        if (refusal < 0) {
            return refusal;
        }
        weights.lead(plans[plan].possibleWay(), draw, rounds);
        return what == 0 ? weights.miss() : weights.ledSum();
    }

    // ---- asked again

    public int cost(int cluster, int c) {
        if (!within(cluster, 0, CLUSTERS - 1) || !within(c, 0, MOST_COST)) {
            return BAD;
        }
        return swap(journey.costs, cluster, c);
    }

    public int again(int plan, int draw, int price, int what) {
        if (!within(price, 0, MOST_PRICE) || !within(what, 0, 2)) {
            return BAD;
        }
        int refusal = refusalOfDraw(plan, draw);
        if (refusal < 0) {
            return refusal;
        }
        journey.seek(plans[plan].possibleWay(), draw, price);
        switch (what) {
            case 0:
                return journey.bestSet;
            case 1:
                return journey.bestGain;
            default:
                return journey.bestCost;
        }
    }

    // ---- sheets

    public int sheet(int s, int form, int n) {
        if (!isSheet(s) || !isForm(form) || n > ITEMS) {
            return BAD;
        }
        if (n < 0) {
            return findingOf(FOUND_SIZE);
        }
        sheets[s].renew(form, n);
        return n;
    }

    public int lose(int s) {
        if (!isSheet(s)) {
            return BAD;
        }
        if (sheets[s].lost) {
            return findingOf(FOUND_NULL);
        }
        sheets[s].lost = true;
        return sheets[s].length;
    }

    public int put(int s, int form, int i, int v) {
        if (!isSheet(s) || !isForm(form)) {
            return BAD;
        }
        int finding = sheets[s].findingAt(form, i);
        if (finding > 0) {
            return findingOf(finding);
        }
        sheets[s].store(i, v);
        return 1;
    }

    public int get(int s, int form, int i) {
        if (!isSheet(s) || !isForm(form)) {
            return LEAST_INT;
        }
        int finding = sheets[s].findingAt(form, i);
        if (finding > 0) {
            latestFinding = finding;
            return LEAST_INT;
        }
        return sheets[s].items[i];
    }

    public int copy(int s, int i, int t, int j, int n) {
        if (!isSheet(s) || !isSheet(t)) {
            return BAD;
        }
        Sheet from = sheets[s];
        Sheet to = sheets[t];
        if (from.lost || to.lost) {
            return findingOf(FOUND_NULL);
        }
        if (from.form != to.form) {
            return findingOf(FOUND_STORE);
        }
        if (!from.reaches(i, n) || !to.reaches(j, n)) {
            return findingOf(FOUND_INDEX);
        }
        System.arraycopy(from.items, i, to.items, j, n);
        return 1;
    }

    public int write(int s, int draw) {
        if (!isSheet(s) || !roll.hasAll(draw)) {
            return BAD;
        }
        Sheet to = sheets[s];
        if (to.lost) {
            return findingOf(FOUND_NULL);
        }
        int written = 0;
        for (int name = 0; name < roll.count && written < to.length; name++) {
            if (isIn(draw, name)) {
                to.store(written, name);
                written++;
            }
        }
        return written;
    }

    public int count(int what) {
        switch (what) {
            case 0:
                return roll.count;
            case 1:
                return Integer.bitCount(roll.valueBits);
            case 2:
                return answers.told;
            case 3:
                return answers.asOfDay;
            case 4:
            case 5:
            case 6:
            case 7:
                return plans[what - 4].length;
            case 8:
                return latestFinding;
            case 9:
                return Integer.bitCount(roll.clusterSet);
            default:
                return BAD;
        }
    }

    public long digest() {
        long h = 17;
        for (int what = 0; what <= 9; what++) {
            if (what != 8) {
                h = 31 * h + count(what);
            }
        }
        for (int name = 0; name < roll.count; name++) {
            for (int what = 0; what <= 4; what++) {
                h = 31 * h + about(name, what);
            }
        }
        for (int plan = 0; plan < PLANS; plan++) {
            h = digestOfPlan(h, plan);
        }
        return h;
    }

    private long digestOfPlan(long before, int plan) {
        long h = 31 * before + fault(plan);
        h = 31 * h + can(plan);
        h = 31 * h + draws(plan);
        if (can(plan) != 1) {
            return h;
        }
        h = 31 * h + lots(plan, 1);
        for (int name = 0; name < roll.count; name++) {
            h = 31 * h + share(plan, name, 0);
            h = 31 * h + share(plan, name, 1);
        }
        return h;
    }

    // ---- what several calls need

    private static boolean within(int number, int least, int most) {
        return number >= least && number <= most;
    }

    private static boolean isPlan(int plan) {
        return within(plan, 0, PLANS - 1);
    }

    private static boolean isSheet(int s) {
        return within(s, 0, SHEETS - 1);
    }

    private static boolean isForm(int form) {
        return within(form, FORM_BYTES, FORM_INTS);
    }

    private static boolean isAboveOrBelow(int what) {
        return within(what, 0, 1);
    }

    private static boolean isIn(int set, int number) {
        return (set >> number & 1) == 1;
    }

    private static long asLong(int refusal) {
        return LEAST_LONG - refusal;
    }

    private static int swap(int[] row, int place, int now) {
        int was = row[place];
        row[place] = now;
        return was;
    }

    private int findingOf(int number) {
        latestFinding = number;
        return -10 - number;
    }

    /**
     * 0, if the plan can make the draw. A plan that cannot be is told ahead of a draw that it cannot
     * make: else the one could never be told.
     */
    private int refusalOfDraw(int plan, int draw) {
        if (!isPlan(plan) || !roll.hasAll(draw)) {
            return BAD;
        }
        Way way = plans[plan].possibleWay();
        if (way == null) {
            return NOT;
        }
        return way.canMake(draw) ? 0 : BAD;
    }

    /** The sum by a draw comes to the field fraction. */
    private void addUp(Way way, int draw) {
        fraction.become(0, 1);
        if (way == null) {
            return;
        }
        int telling = draw & roll.valueBits;
        for (int name = 0; name < roll.count; name++) {
            if (isIn(telling, name)) {
                way.shareOfOne(name, otherFraction);
                fraction.add(roll.value[name] * otherFraction.below, otherFraction.above);
            }
        }
    }

    private boolean spreadOf(int plan, Fraction into) {
        if (plans[plan].possibleWay() instanceof GroupWay groups) {
            return groups.spreadInto(into);
        }
        return false;
    }

    /** Rounding down keeps the order, so the sums may be rounded ahead of being compared. */
    private long edgeOf(LineWay line, int what) {
        int points = line.pointCount();
        long best = 0;
        for (int point = 0; point < points; point++) {
            addUp(line, line.drawAt(point));
            long rounded = fraction.roundedDown();
            boolean better = what == 0 ? rounded < best : rounded > best;
            if (point == 0 || better) {
                best = rounded;
            }
        }
        return best;
    }

    /** A fraction not below 0, always in lowest terms. */
    private static final class Fraction {
        private long above = 0;
        private long below = 1;

        void become(long newAbove, long newBelow) {
            if (newAbove <= 0 || newBelow <= 0) {
                above = 0;
                below = 1;
                return;
            }
            long common = commonDivisor(newAbove, newBelow);
            above = newAbove / common;
            below = newBelow / common;
        }

        void add(long moreAbove, long moreBelow) {
            if (moreAbove <= 0 || moreBelow <= 0) {
                return;
            }
            long common = commonDivisor(below, moreBelow);
            long scale = moreBelow / common;
            become(above * scale + moreAbove * (below / common), below * scale);
        }

        /**
         * Whole parts first: crosswise products of the whole fractions could pass a long, those of
         * the rests cannot, as what is compared (spreads) has small numbers below.
         */
        int compareWith(Fraction other) {
            int byWhole = Long.compare(roundedDown(), other.roundedDown());
            if (byWhole != 0 || below <= 0 || other.below <= 0) {
                return byWhole;
            }
            return Long.compare(above % below * other.below, other.above % other.below * below);
        }

        long roundedDown() {
            return below <= 0 ? 0 : above / below;
        }

        /** A thousand by this fraction, cut. */
        int thousandBy() {
            return above <= 0 ? 0 : (int) (1000 * below / above);
        }

        long told(int what) {
            return what == 0 ? above : below;
        }

        /** At least 1. Euclid's steps on longs are fewer than 100, far below the loop's bound. */
        private static long commonDivisor(long a, long b) {
            long greater = a;
            long lesser = b;
            for (int step = 0; step < 1000 && lesser > 0; step++) {
                long rest = greater % lesser;
                greater = lesser;
                lesser = rest;
            }
            return greater <= 0 ? 1 : greater;
        }
    }

    /** The names, as they came, and the values that they have now. */
    private static final class Roll {
        private final int[] layer = new int[NAMES];
        private final int[] cluster = new int[NAMES];
        private final int[] size = new int[NAMES];
        private final int[] mark = new int[NAMES];
        private final int[] value = new int[NAMES];
        private final int[] layerBits = new int[LAYERS];
        private final int[] clusterBits = new int[CLUSTERS];
        private final int[] markBits = new int[MARKS];
        /** Where each name begins on the line of sizes, and whose each point of the line is. */
        private final int[] begin = new int[NAMES];
        private final int[] owner = new int[NAMES * MOST_SIZE];
        private int count;
        private int everyone;
        private int clusterSet;
        private int lineLength;
        private int valueBits;

        boolean has(int name) {
            return within(name, 0, count - 1);
        }

        boolean hasAll(int draw) {
            return (draw & ~everyone) == 0;
        }

        int enter(int itsLayer, int itsCluster, int itsSize, int itsMark) {
            if (!within(itsLayer, 0, LAYERS - 1) || !within(itsCluster, 0, CLUSTERS - 1)
                    || !within(itsSize, 1, MOST_SIZE) || !within(itsMark, 0, MARKS - 1)) {
                return BAD;
            }
            if (count >= NAMES) {
                return FULL;
            }
            int number = count;
            count++;
            layer[number] = itsLayer;
            cluster[number] = itsCluster;
            size[number] = itsSize;
            mark[number] = itsMark;
            value[number] = NONE;
            everyone |= 1 << number;
            layerBits[itsLayer] |= 1 << number;
            clusterBits[itsCluster] |= 1 << number;
            markBits[itsMark] |= 1 << number;
            clusterSet |= 1 << itsCluster;
            layOnLine(number);
            return number;
        }

        private void layOnLine(int number) {
            begin[number] = lineLength;
            for (int k = 0; k < size[number] && lineLength < owner.length; k++) {
                owner[lineLength] = number;
                lineLength++;
            }
        }

        void forgetValues() {
            valueBits = 0;
            for (int name = 0; name < count; name++) {
                value[name] = NONE;
            }
        }

        void hold(int name, int itsValue) {
            value[name] = itsValue;
            if (itsValue == NONE) {
                valueBits &= ~(1 << name);
            } else {
                valueBits |= 1 << name;
            }
        }
    }

    /** What names told, and as of which day it is looked at. */
    private static final class Answers {
        private final Roll roll;
        private final int[] names = new int[MOST_ANSWERS];
        private final int[] values = new int[MOST_ANSWERS];
        private final int[] days = new int[MOST_ANSWERS];
        private final int[] latestDay = new int[NAMES];
        private int told;
        private int asOfDay = LAST_DAY;

        Answers(Roll roll) {
            this.roll = roll;
        }

        int tell(int name, int value, int day) {
            if (told >= MOST_ANSWERS) {
                return FULL;
            }
            names[told] = name;
            values[told] = value;
            days[told] = day;
            told++;
            settle();
            return told;
        }

        int look(int day) {
            int was = asOfDay;
            asOfDay = day;
            settle();
            return was;
        }

        private void settle() {
            roll.forgetValues();
            for (int name = 0; name < NAMES; name++) {
                latestDay[name] = 0;
            }
            for (int k = 0; k < told; k++) {
                int name = names[k];
                if (days[k] <= asOfDay && days[k] >= latestDay[name]) {
                    latestDay[name] = days[k];
                    roll.hold(name, values[k]);
                }
            }
        }
    }

    /** A plan's text, and what it says. */
    private static final class Plan {
        private final int[] text = new int[BYTES];
        private final int[] numbers = new int[LAYERS];
        private final Way ofAll;
        private final Way ofLayers;
        private final Way ofEach;
        private final Way ofSizes;
        private final Way ofSteps;
        private int length;
        private int faultPlace;
        private Way way;

        Plan(Roll roll) {
            ofAll = new GroupWay(roll, numbers, false);
            ofLayers = new GroupWay(roll, numbers, true);
            ofEach = new LineWay(roll, numbers, false);
            ofSizes = new LineWay(roll, numbers, true);
            ofSteps = new StepWay(roll, numbers);
        }

        int append(int b) {
            if (length >= BYTES) {
                return FULL;
            }
            text[length] = b;
            length++;
            understand();
            return length;
        }

        int clear() {
            int was = length;
            length = 0;
            understand();
            return was;
        }

        /** The way to draw, if the plan can be; else null. */
        Way possibleWay() {
            if (way == null || faultPlace != NONE || !way.canBe()) {
                return null;
            }
            return way;
        }

        private void understand() {
            switch (byteAt(0)) {
                case 'a':
                    way = ofAll;
                    faultPlace = faultOfNumbers(1, NONE);
                    break;
                case 'l':
                    way = ofLayers;
                    faultPlace = faultOfNumbers(LAYERS, ',');
                    break;
                case 'e':
                    way = ofEach;
                    faultPlace = faultOfNumbers(1, NONE);
                    break;
                case 'z':
                    way = ofSizes;
                    faultPlace = faultOfNumbers(1, NONE);
                    break;
                case 't':
                    way = ofSteps;
                    faultPlace = faultOfNumbers(2, 'x');
                    break;
                default:
                    way = null;
                    faultPlace = 0;
            }
        }

        private int faultOfNumbers(int wanted, int between) {
            int at = 1;
            for (int k = 0; k < wanted && k < numbers.length; k++) {
                if (k > 0) {
                    if (byteAt(at) != between) {
                        return at;
                    }
                    at++;
                }
                if (!isFigure(at)) {
                    return at;
                }
                numbers[k] = byteAt(at) - '0';
                at++;
                if (isFigure(at)) {
                    numbers[k] = 10 * numbers[k] + byteAt(at) - '0';
                    at++;
                }
            }
            return at < length ? at : NONE;
        }

        private int byteAt(int at) {
            return within(at, 0, length - 1) ? text[at] : NONE;
        }

        private boolean isFigure(int at) {
            return within(byteAt(at), '0', '9');
        }
    }

    /** How a plan draws. What is asked of it, but canBe(), is asked only while it can be. */
    private abstract static class Way {
        final Roll roll;
        final int[] numbers;
        private int seed;

        Way(Roll roll, int[] numbers) {
            this.roll = roll;
            this.numbers = numbers;
        }

        abstract boolean canBe();

        abstract long countWays();

        abstract void shareOfOne(int name, Fraction into);

        abstract void shareOfTwo(int a, int b, Fraction into);

        abstract int fewest();

        abstract int most();

        abstract boolean canMake(int draw);

        /** By the seed as it stands. */
        abstract int drawByLots();

        final int castLot(int k) {
            seed = 1103515245 * seed + 12345;
            return k <= 0 ? 0 : (seed >>> 16) % k;
        }

        /** So many of a set. Each member costs a lot, also when no more are wanted. */
        final int takeByLots(int set, int wanted) {
            int taken = 0;
            int yetLeft = Integer.bitCount(set);
            int yetWanted = wanted;
            for (int member = 0; member < NAMES; member++) {
                if (!isIn(set, member)) {
                    continue;
                }
                if (castLot(yetLeft) < yetWanted) {
                    taken |= 1 << member;
                    yetWanted--;
                }
                yetLeft--;
            }
            return taken;
        }

        /** How many sets of so many there are. Each step's product is a whole multiple of its divisor. */
        static long waysToTake(int wanted, int of) {
            long ways = 1;
            for (int k = 1; k <= wanted; k++) {
                ways = ways * (of - wanted + k) / k;
            }
            return ways;
        }
    }

    /** So many of each group, where the groups are the layers, or all names are one group. */
    private static final class GroupWay extends Way {
        private final boolean byLayers;
        private final int groups;

        GroupWay(Roll roll, int[] numbers, boolean byLayers) {
            super(roll, numbers);
            this.byLayers = byLayers;
            groups = byLayers ? LAYERS : 1;
        }

        private int groupOf(int name) {
            return byLayers ? roll.layer[name] : 0;
        }

        private int membersOf(int group) {
            return byLayers ? roll.layerBits[group] : roll.everyone;
        }

        private int sizeOf(int group) {
            return Integer.bitCount(membersOf(group));
        }

        boolean canBe() {
            boolean some = false;
            for (int g = 0; g < groups; g++) {
                if (numbers[g] > sizeOf(g)) {
                    return false;
                }
                some = some || numbers[g] > 0;
            }
            return some;
        }

        long countWays() {
            long ways = 1;
            for (int g = 0; g < groups; g++) {
                ways *= waysToTake(numbers[g], sizeOf(g));
            }
            return ways;
        }

        void shareOfOne(int name, Fraction into) {
            int g = groupOf(name);
            into.become(numbers[g], sizeOf(g));
        }

        void shareOfTwo(int a, int b, Fraction into) {
            int g = groupOf(a);
            int h = groupOf(b);
            int less = g == h ? 1 : 0;
            into.become((long) numbers[g] * (numbers[h] - less), (long) sizeOf(g) * (sizeOf(h) - less));
        }

        int fewest() {
            return most();
        }

        int most() {
            int together = 0;
            for (int g = 0; g < groups; g++) {
                together += numbers[g];
            }
            return together;
        }

        boolean canMake(int draw) {
            for (int g = 0; g < groups; g++) {
                if (Integer.bitCount(draw & membersOf(g)) != numbers[g]) {
                    return false;
                }
            }
            return true;
        }

        int drawByLots() {
            int draw = 0;
            for (int g = 0; g < groups; g++) {
                draw |= takeByLots(membersOf(g), numbers[g]);
            }
            return draw;
        }

        /** False, if a value lacks in a group of which some are drawn. */
        boolean spreadInto(Fraction into) {
            into.become(0, 1);
            for (int g = 0; g < groups; g++) {
                if (numbers[g] == 0) {
                    continue;
                }
                if ((membersOf(g) & ~roll.valueBits) != 0) {
                    return false;
                }
                addSpreadOf(g, into);
            }
            return true;
        }

        /**
         * Groups are drawn apart, so their spreads add up. That of n of N values y, told by N / n,
         * is (N - n) (N sum(y y) - sum(y) sum(y)) / (n (N - 1)).
         */
        private void addSpreadOf(int g, Fraction into) {
            int members = membersOf(g);
            long sum = 0;
            long squares = 0;
            for (int name = 0; name < roll.count; name++) {
                if (isIn(members, name)) {
                    long y = roll.value[name];
                    sum += y;
                    squares += y * y;
                }
            }
            long all = sizeOf(g);
            long drawn = numbers[g];
            into.add((all - drawn) * (all * squares - sum * sum), drawn * (all - 1));
        }
    }

    /** One point of so many, each alike likely, says the whole draw: round the list, or by sizes along a line. */
    private static final class LineWay extends Way {
        private final boolean bySizes;

        LineWay(Roll roll, int[] numbers, boolean bySizes) {
            super(roll, numbers);
            this.bySizes = bySizes;
        }

        boolean canBe() {
            return bySizes ? pointCount() >= 1 : within(numbers[0], 1, NAMES);
        }

        int pointCount() {
            return bySizes ? lengthOfStep() : numbers[0];
        }

        private int lengthOfStep() {
            return numbers[0] < 1 ? 0 : roll.lineLength / numbers[0];
        }

        int drawAt(int point) {
            return bySizes ? drawAlongSizes(point) : drawRoundList(point);
        }

        private int drawRoundList(int first) {
            int draw = 0;
            int step = Math.max(1, numbers[0]);
            for (int name = first; name < roll.count; name += step) {
                draw |= 1 << name;
            }
            return draw;
        }

        private int drawAlongSizes(int point) {
            int step = lengthOfStep();
            int draw = 0;
            for (int j = 0; j < numbers[0]; j++) {
                int at = point + j * step;
                if (within(at, 0, roll.lineLength - 1)) {
                    draw |= 1 << roll.owner[at];
                }
            }
            return draw;
        }

        /**
         * By sizes a name is one stretch of the line, so there is a point for each place of it, until
         * it is as long as a step; what lies behind the last step has none.
         */
        private int pointsWith(int name) {
            if (!bySizes) {
                return 1;
            }
            int step = lengthOfStep();
            int end = Math.min(roll.begin[name] + roll.size[name], step * numbers[0]);
            return Math.max(0, Math.min(step, end - roll.begin[name]));
        }

        long countWays() {
            return pointCount();
        }

        void shareOfOne(int name, Fraction into) {
            into.become(pointsWith(name), pointCount());
        }

        void shareOfTwo(int a, int b, Fraction into) {
            int points = pointCount();
            int wanted = 1 << a | 1 << b;
            int with = 0;
            for (int point = 0; point < points; point++) {
                if ((drawAt(point) & wanted) == wanted) {
                    with++;
                }
            }
            into.become(with, points);
        }

        int fewest() {
            int points = pointCount();
            int least = NAMES;
            for (int point = 0; point < points; point++) {
                least = Math.min(least, Integer.bitCount(drawAt(point)));
            }
            return least;
        }

        int most() {
            int points = pointCount();
            int greatest = 0;
            for (int point = 0; point < points; point++) {
                greatest = Math.max(greatest, Integer.bitCount(drawAt(point)));
            }
            return greatest;
        }

        boolean canMake(int draw) {
            int points = pointCount();
            for (int point = 0; point < points; point++) {
                if (drawAt(point) == draw) {
                    return true;
                }
            }
            return false;
        }

        int drawByLots() {
            return drawAt(castLot(pointCount()));
        }
    }

    /** In two steps: so many of the clusters, then so many names of each. */
    private static final class StepWay extends Way {
        private final long[] waysOfSoMany = new long[CLUSTERS + 1];

        StepWay(Roll roll, int[] numbers) {
            super(roll, numbers);
        }

        private int clusters() {
            return Integer.bitCount(roll.clusterSet);
        }

        private int sizeOf(int c) {
            return Integer.bitCount(roll.clusterBits[c]);
        }

        private int takenOf(int c) {
            return Math.min(numbers[1], sizeOf(c));
        }

        boolean canBe() {
            return within(numbers[0], 1, clusters()) && numbers[1] >= 1;
        }

        /** Cluster by cluster, in how many ways so many of those seen can be taken with their names. */
        long countWays() {
            waysOfSoMany[0] = 1;
            for (int k = 1; k <= CLUSTERS; k++) {
                waysOfSoMany[k] = 0;
            }
            for (int c = 0; c < CLUSTERS; c++) {
                if (sizeOf(c) == 0) {
                    continue;
                }
                long ways = waysToTake(takenOf(c), sizeOf(c));
                for (int k = CLUSTERS; k >= 1; k--) {
                    waysOfSoMany[k] += ways * waysOfSoMany[k - 1];
                }
            }
            return within(numbers[0], 0, CLUSTERS) ? waysOfSoMany[numbers[0]] : 0;
        }

        void shareOfOne(int name, Fraction into) {
            int c = roll.cluster[name];
            into.become((long) numbers[0] * takenOf(c), (long) clusters() * sizeOf(c));
        }

        void shareOfTwo(int a, int b, Fraction into) {
            int c = roll.cluster[a];
            int d = roll.cluster[b];
            long above = numbers[0] * (long) takenOf(c);
            long below = clusters() * (long) sizeOf(c);
            if (c == d) {
                into.become(above * (takenOf(c) - 1), below * (sizeOf(c) - 1));
                return;
            }
            above *= (numbers[0] - 1) * (long) takenOf(d);
            below *= (clusters() - 1) * (long) sizeOf(d);
            into.become(above, below);
        }

        int fewest() {
            int together = 0;
            int left = numbers[0];
            for (int taken = 1; taken <= NAMES; taken++) {
                int alike = Math.min(left, clustersThatGive(taken));
                together += alike * taken;
                left -= alike;
            }
            return together;
        }

        int most() {
            int together = 0;
            int left = numbers[0];
            for (int taken = NAMES; taken >= 1; taken--) {
                int alike = Math.min(left, clustersThatGive(taken));
                together += alike * taken;
                left -= alike;
            }
            return together;
        }

        private int clustersThatGive(int taken) {
            int alike = 0;
            for (int c = 0; c < CLUSTERS; c++) {
                if (takenOf(c) == taken) {
                    alike++;
                }
            }
            return alike;
        }

        boolean canMake(int draw) {
            int touched = 0;
            for (int c = 0; c < CLUSTERS; c++) {
                int here = Integer.bitCount(draw & roll.clusterBits[c]);
                if (here > 0) {
                    touched++;
                    if (here != takenOf(c)) {
                        return false;
                    }
                }
            }
            return touched == numbers[0];
        }

        int drawByLots() {
            int set = takeByLots(roll.clusterSet, numbers[0]);
            int draw = 0;
            for (int c = 0; c < CLUSTERS; c++) {
                if (isIn(set, c)) {
                    draw |= takeByLots(roll.clusterBits[c], takenOf(c));
                }
            }
            return draw;
        }
    }

    /** Weights of a draw's names, led to known sums. Names without a weight stand at 0 and stay there. */
    private static final class Weights {
        private final Roll roll;
        private final int[] layerSums = new int[LAYERS];
        private final int[] markSums = new int[MARKS];
        private final int[] weight = new int[NAMES];
        private final long[] rest = new long[NAMES];
        private final Fraction share = new Fraction();

        Weights(Roll roll) {
            this.roll = roll;
        }

        void lead(Way way, int draw, int rounds) {
            start(way, draw & roll.valueBits);
            for (int round = 0; round < rounds; round++) {
                for (int l = 0; l < LAYERS; l++) {
                    divide(layerSums[l], roll.layerBits[l]);
                }
                for (int m = 0; m < MARKS; m++) {
                    divide(markSums[m], roll.markBits[m]);
                }
            }
        }

        private void start(Way way, int telling) {
            for (int name = 0; name < NAMES; name++) {
                weight[name] = 0;
                if (way != null && isIn(telling, name)) {
                    way.shareOfOne(name, share);
                    weight[name] = share.thousandBy();
                }
            }
        }

        /** A name at 0 has no rest, so none of what is left ever comes to it. */
        private void divide(int whole, int members) {
            long together = sumOf(members);
            if (together <= 0) {
                return;
            }
            int left = whole;
            for (int name = 0; name < roll.count; name++) {
                if (isIn(members, name)) {
                    long product = (long) whole * weight[name];
                    weight[name] = (int) (product / together);
                    rest[name] = product % together;
                    left -= weight[name];
                }
            }
            for (int k = 0; k < left && k < NAMES; k++) {
                raiseGreatestRest(members);
            }
        }

        private void raiseGreatestRest(int members) {
            int greatest = NONE;
            for (int name = 0; name < roll.count; name++) {
                if (isIn(members, name) && (greatest == NONE || rest[name] > rest[greatest])) {
                    greatest = name;
                }
            }
            if (greatest != NONE) {
                weight[greatest]++;
                rest[greatest] = -1;
            }
        }

        private int sumOf(int members) {
            int together = 0;
            for (int name = 0; name < roll.count; name++) {
                if (isIn(members, name)) {
                    together += weight[name];
                }
            }
            return together;
        }

        int miss() {
            int off = 0;
            for (int l = 0; l < LAYERS; l++) {
                off += Math.abs(sumOf(roll.layerBits[l]) - layerSums[l]);
            }
            for (int m = 0; m < MARKS; m++) {
                off += Math.abs(sumOf(roll.markBits[m]) - markSums[m]);
            }
            return off;
        }

        int ledSum() {
            long together = 0;
            for (int name = 0; name < roll.count; name++) {
                if (weight[name] > 0) {
                    together += (long) weight[name] * roll.value[name];
                }
            }
            return (int) (together / 1000);
        }
    }

    /** To which clusters it is best to go again. */
    private static final class Journey {
        private final Roll roll;
        private final int[] costs = new int[CLUSTERS];
        private final int[] gains = new int[CLUSTERS];
        private final Fraction share = new Fraction();
        private int bestSet;
        private int bestGain;
        private int bestCost;

        Journey(Roll roll) {
            this.roll = roll;
            for (int c = 0; c < CLUSTERS; c++) {
                costs[c] = FIRST_COST;
            }
        }

        /** Sets come from the least on, so of like ones the least stays. */
        void seek(Way way, int draw, int price) {
            int worth = gatherGains(way, draw & ~roll.valueBits);
            bestSet = 0;
            bestGain = 0;
            bestCost = 0;
            for (int set = 1; set < 1 << CLUSTERS; set++) {
                if ((set & ~worth) != 0) {
                    continue;
                }
                int itsCost = together(costs, set);
                int itsGain = together(gains, set);
                boolean better = itsGain > bestGain || itsGain == bestGain && itsCost < bestCost;
                if (itsCost <= price && better) {
                    bestSet = set;
                    bestGain = itsGain;
                    bestCost = itsCost;
                }
            }
        }

        /** Which clusters have silent names of the draw. */
        private int gatherGains(Way way, int silentOnes) {
            int worth = 0;
            for (int c = 0; c < CLUSTERS; c++) {
                gains[c] = 0;
            }
            for (int name = 0; name < roll.count; name++) {
                if (way != null && isIn(silentOnes, name)) {
                    way.shareOfOne(name, share);
                    gains[roll.cluster[name]] += share.thousandBy();
                    worth |= 1 << roll.cluster[name];
                }
            }
            return worth;
        }

        private static int together(int[] row, int set) {
            int sum = 0;
            for (int c = 0; c < CLUSTERS; c++) {
                if (isIn(set, c)) {
                    sum += row[c];
                }
            }
            return sum;
        }
    }

    /** A row of items, lost at first. Items of every form are held as ints, cut as they come in. */
    private static final class Sheet {
        private final int[] items = new int[ITEMS];
        private boolean lost = true;
        private int form;
        private int length;

        void renew(int newForm, int newLength) {
            lost = false;
            form = newForm;
            length = newLength;
            for (int i = 0; i < ITEMS; i++) {
                items[i] = 0;
            }
        }

        /** What stands against item i, treated as of a form; 0, if nothing does. */
        int findingAt(int asForm, int i) {
            if (lost) {
                return FOUND_NULL;
            }
            if (form != asForm) {
                return FOUND_CAST;
            }
            return within(i, 0, length - 1) ? 0 : FOUND_INDEX;
        }

        /** Whether there are n items from i on; i + n could pass an int. */
        boolean reaches(int i, int n) {
            return i >= 0 && n >= 0 && i <= length && n <= length - i;
        }

        void store(int i, int v) {
            if (form == FORM_BYTES) {
                items[i] = (byte) v;
            } else if (form == FORM_SHORTS) {
                items[i] = (short) v;
            } else {
                items[i] = v;
            }
        }
    }
}
