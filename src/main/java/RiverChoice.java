/**
 * Men of hidden kinds, weighed by what they show at a river, by night and at a shout.
 * Every row that a call needs is made with the object, so that no call makes anything.
 */
public final class RiverChoice {
    public static final int NONE = -1, BAD = -2, NO = -3, FULL = -4;

    private static final int MOST_MEN = 6;
    private static final int KINDS = 6;
    private static final int TESTS = 3;
    private static final int RIVER = 0;
    private static final int HOLDING = 3;
    private static final int BOASTER = 3;
    private static final int SPY = 5;
    private static final int ALL_CASES = 12;
    private static final int PARTS = 60;
    private static final int MOST_DAYLIGHT = 99;
    private static final int MOST_SIGNS = 31;
    private static final int MOST_KEPT = 6;
    private static final int MOST_WEIGHED = 3;
    private static final int MOST_SIFTED = 3;
    private static final int BAD_CHOICE = -10;
    private static final int BAD_WORTH = -100000000;
    private static final int NO_WORTH = -200000000;
    private static final int NOT_SO_MANY = -5;
    private static final int ANOTHER_STATUS = -1;
    private static final int FAULT_BASE = -10;
    private static final int REFUSED_ITEM_BASE = -1000;

    /** DAYLIGHT that the river, the night and the shout cost. */
    private static final int[] COSTS = {2, 5, 3};

    /** Of 12 cases, kind by kind: shown at the river (without WORD), by night, at a shout; held. */
    private static final int[] CASES = {
        6, 5, 4, 6,
        9, 8, 7, 10,
        3, 2, 1, 2,
        3, 2, 1, 1,
        4, 10, 9, 11,
        3, 2, 1, 0,
    };

    /** At the river, when WORD has reached one who only makes a show. */
    private static final int CASES_BY_WORD = 11;

    private final Band band = new Band();
    private final Past past = new Past();
    private final Image firstImage = new Image();
    private final Image secondImage = new Image();
    private final Reader reader = new Reader();
    private final Odds odds = new Odds();
    private final Row trial = new Row();
    private final Sifted sifted = new Sifted();
    private final int[] told = new int[KINDS];
    private long above = 0;
    private long below = 1;
    private int badCalls;
    private int noCalls;
    private int fullCalls;

    public RiverChoice() {
    }

    // ---- a muster

    public int muster(int daylight) {
        return accepted(band.begin(daylight));
    }

    public int man(int a, int b, int c, int d, int e, int f) {
        told[0] = a;
        told[1] = b;
        told[2] = c;
        told[3] = d;
        told[4] = e;
        told[5] = f;
        return accepted(band.enrol(told));
    }

    public int worn(int man, int signs) {
        return accepted(band.dress(man, signs));
    }

    public int pair(int a, int b) {
        return accepted(band.bind(a, b));
    }

    public int word(int man) {
        return accepted(band.inform(man));
    }

    public int type(int c) {
        int answer = reader.text.append(c);
        return answer < 0 ? refused(answer) : answer;
    }

    public int clear() {
        return reader.text.empty();
    }

    public int read() {
        int fault = reader.findFault();
        if (fault != NONE) {
            return FAULT_BASE - fault;
        }
        int refusedItem = reader.tellDraft();
        if (refusedItem != NONE) {
            return REFUSED_ITEM_BASE - refusedItem;
        }
        band.become(reader.draft);
        past.forget();
        return reader.items;
    }

    // ---- tests

    public int test(int man, int test, boolean shown) {
        if (!band.has(man) || !isTest(test)) {
            return refused(BAD);
        }
        if (band.daylight < costOf(test)) {
            return refused(NO);
        }
        past.push(band);
        band.pass(man, test, shown);
        return band.trustOf(man);
    }

    public int undo() {
        return past.pop(band) ? 1 : refused(NO);
    }

    public long weight(int man, int kind) {
        if (!band.has(man) || kind < 0 || kind >= KINDS) {
            return refused(BAD);
        }
        return band.weightOf(man, kind);
    }

    public int cases(int kind, int what, boolean word) {
        if (kind < 0 || kind >= KINDS || what < 0 || what > HOLDING) {
            return refused(BAD);
        }
        return casesOf(kind, what, word);
    }

    public int trust(int man) {
        return band.has(man) ? band.trustOf(man) : refused(BAD);
    }

    public int shows(int man, int test) {
        return band.has(man) && isTest(test) ? band.showsOf(man, test) : refused(BAD);
    }

    public int of(int man, int what) {
        if (!band.has(man)) {
            return refused(BAD);
        }
        switch (what) {
            case 0:
                return band.signsOf(man);
            case 1:
                return band.brothersOf(man);
            case 2:
                return band.knows(man) ? 1 : 0;
            case 3:
                return band.likeliestOf(man);
            default:
                return refused(BAD);
        }
    }

    // ---- whom to keep

    public int hold(int men, int j) {
        if (!band.hasAll(men) || !isNeed(j)) {
            return refused(BAD);
        }
        odds.seeNow(band);
        long ways = odds.waysToHold(men, j);
        long all = 1;
        for (int i = 0; i < Integer.bitCount(men); i++) {
            all *= PARTS;
        }
        long common = greatestCommon(ways, all);
        if (common > 0) {
            above = ways / common;
            below = all / common;
        }
        return 1;
    }

    public int keep(int k, int j) {
        if (k < 0 || k > MOST_KEPT || !isNeed(j)) {
            return refusedAs(BAD, BAD_CHOICE);
        }
        if (k > band.size) {
            return NONE;
        }
        odds.seeNow(band);
        odds.chooseBest(band.size, k, j);
        return odds.bestMen;
    }

    public int worth(int man, int test, int k, int j) {
        if (!band.has(man) || !isTest(test) || !isWeighed(k) || !isNeed(j)) {
            return refusedAs(BAD, BAD_WORTH);
        }
        if (band.daylight < costOf(test) || k > band.size) {
            return refusedAs(NO, NO_WORTH);
        }
        return gainOf(man, test, k, j, waysNow(k, j));
    }

    public int best(int k, int j) {
        if (!isWeighed(k) || !isNeed(j)) {
            return refusedAs(BAD, BAD_CHOICE);
        }
        if (k > band.size) {
            return NONE;
        }
        long now = waysNow(k, j);
        int first = NONE;
        int most = 0;
        for (int man = 0; man < band.size; man++) {
            for (int test = 0; test < TESTS; test++) {
                if (band.daylight < costOf(test)) {
                    continue;
                }
                int gain = gainOf(man, test, k, j, now);
                if (first == NONE || gain > most) {
                    first = 10 * man + test;
                    most = gain;
                }
            }
        }
        return first;
    }

    public int sift(int man, int t, int i) {
        if (!band.has(man) || t < 0 || t > PARTS || i < NONE) {
            return refusedAs(BAD, BAD_CHOICE);
        }
        if (!sifted.find(band, man, t)) {
            return NONE;
        }
        if (i == NONE) {
            return sifted.size;
        }
        return i < sifted.size ? sifted.testAt(i) : NOT_SO_MANY;
    }

    public int runs(int man) {
        if (!band.has(man)) {
            return refused(BAD);
        }
        int informed = band.informed;
        int knew = 0;
        for (int m = man; m < band.size; m++) {
            knew |= informed & (1 << m);
            informed |= band.besides(m);
        }
        return knew;
    }

    public int home(int t) {
        if (t < 0 || t > 2 * PARTS) {
            return refused(BAD);
        }
        odds.seeNow(band);
        int all = (1 << band.size) - 1;
        int fewest = all;
        for (int gone = all; gone >= 0; gone--) {
            if (Integer.bitCount(gone) <= Integer.bitCount(fewest) && mayStay(all & ~gone, t)) {
                fewest = gone;
            }
        }
        return fewest;
    }

    public int spy(int man) {
        if (!band.has(man)) {
            return refused(BAD);
        }
        trial.load(band, man);
        trial.dropSpy();
        int without = trial.isEmpty() ? PARTS : trial.chance(HOLDING, false);
        return without - band.trustOf(man);
    }

    // ---- looks, boasters

    public int looks(int men, boolean all, int what) {
        if (!band.hasAll(men) || what < 0 || what > 1) {
            return refusedAs(BAD, BAD_CHOICE);
        }
        int sets = 0;
        int common = MOST_SIGNS;
        for (int set = 0; set <= MOST_SIGNS; set++) {
            if (band.wearers(set, all) == men) {
                sets++;
                common &= set;
            }
        }
        if (what == 0) {
            return sets;
        }
        return sets == 0 ? NONE : common;
    }

    public int next(int men) {
        if (!band.hasAll(men)) {
            return refusedAs(BAD, BAD_CHOICE);
        }
        for (int man = 0; man < band.size; man++) {
            if (isOpen(man, men)) {
                return man;
            }
        }
        return NONE;
    }

    public int boast(int a, int b, int what) {
        if (!band.has(a) || !band.has(b) || a == b || what < 0 || what > 1) {
            return refused(BAD);
        }
        if (!band.knows(a) || !band.knows(b)) {
            return refused(NO);
        }
        int pairs = 0;
        int first = NONE;
        for (int one = 0; one <= 1; one++) {
            for (int other = 0; other <= 1; other++) {
                if (rests(band.trustOf(a), one, other) && rests(band.trustOf(b), other, one)) {
                    first = pairs == 0 ? 10 * one + other : first;
                    pairs++;
                }
            }
        }
        return what == 0 ? pairs : first;
    }

    public int again(int man) {
        if (!band.has(man)) {
            return refused(BAD);
        }
        trial.load(band, man);
        trial.weigh(RIVER, true, band.knows(man));
        return trial.chance(RIVER, true);
    }

    public int drawn(int men, int n, int seed) {
        if (!band.hasAll(men) || n < 0 || n > 30 || seed < 0 || seed > 999999) {
            return refused(BAD);
        }
        odds.seeNow(band);
        long x = seed;
        int held = 0;
        for (int day = 0; day < n; day++) {
            for (int man = 0; man < band.size; man++) {
                if (isIn(men, man)) {
                    x = (x * 1103515245L + 12345L) % 2147483648L;
                    held += x / 65536 % PARTS < odds.trustSeen(man) ? 1 : 0;
                }
            }
        }
        return held;
    }

    // ---- what there is

    public long part(int what) {
        if (what < 0 || what > 1) {
            return refused(BAD);
        }
        return what == 0 ? above : below;
    }

    public int image(int i) {
        if (i < 0 || i > 1) {
            return refused(BAD);
        }
        Image kept = imageAt(i);
        kept.band.become(band);
        kept.past.become(past);
        kept.exists = true;
        return 1;
    }

    public int from(int i) {
        if (i < 0 || i > 1) {
            return refused(BAD);
        }
        Image kept = imageAt(i);
        if (!kept.exists) {
            return refused(NO);
        }
        band.become(kept.band);
        past.become(kept.past);
        return 1;
    }

    public int status(int what) {
        switch (what) {
            case 0:
                return badCalls;
            case 1:
                return noCalls;
            case 2:
                return fullCalls;
            default:
                return refusedAs(BAD, ANOTHER_STATUS);
        }
    }

    public int count(int what) {
        return what < 0 || what > 5 ? refused(BAD) : howMany(what);
    }

    public long digest() {
        long h = 971;
        for (int what = 0; what <= 5; what++) {
            h = 31 * h + howMany(what);
        }
        for (int man = 0; man < band.size; man++) {
            for (int kind = 0; kind < KINDS; kind++) {
                h = 31 * h + band.weightOf(man, kind);
            }
            h = 31 * h + band.signsOf(man);
            h = 31 * h + band.brothersOf(man);
            h = 31 * h + (band.knows(man) ? 1 : 0);
        }
        h = 31 * h + above;
        return 31 * h + below;
    }

    // ---- answers

    /** The answer of a call that tells something of the muster: once it is told, no test may be undone. */
    private int accepted(int answer) {
        if (answer < 0) {
            return refused(answer);
        }
        past.forget();
        return answer;
    }

    private int refused(int reason) {
        return refusedAs(reason, reason);
    }

    private int refusedAs(int reason, int answer) {
        if (reason == BAD) {
            badCalls++;
        } else if (reason == NO) {
            noCalls++;
        } else if (reason == FULL) {
            fullCalls++;
        }
        return answer;
    }

    private int howMany(int what) {
        switch (what) {
            case 0:
                return band.size;
            case 1:
                return band.daylight;
            case 2:
                return band.pairs();
            case 3:
                return Integer.bitCount(band.informed);
            case 4:
                return past.size;
            default:
                return reader.text.size;
        }
    }

    private Image imageAt(int i) {
        return i == 0 ? firstImage : secondImage;
    }

    // ---- what is weighed

    private long waysNow(int k, int j) {
        odds.seeNow(band);
        return odds.chooseBest(band.size, k, j);
    }

    /** How much a test of a man adds to the best hold, of which there are so many ways now. */
    private int gainOf(int man, int test, int k, int j, long now) {
        long shown = band.showsOf(man, test);
        odds.seeBehind(band, man, test, true);
        long sum = shown * odds.chooseBest(band.size, k, j);
        odds.seeBehind(band, man, test, false);
        sum += (PARTS - shown) * odds.chooseBest(band.size, k, j);
        return (int) (sum - PARTS * now);
    }

    /** Whether any two brothers among those who stay have so much trust together. */
    private boolean mayStay(int staying, int t) {
        for (int a = 0; a < band.size; a++) {
            for (int b = a + 1; b < band.size; b++) {
                boolean both = isIn(staying, a) && isIn(staying, b);
                if (both && band.areBrothers(a, b) && odds.trustSeen(a) + odds.trustSeen(b) < t) {
                    return false;
                }
            }
        }
        return true;
    }

    /** Whether sets of signs that fit all others leave it open if this man was kept. */
    private boolean isOpen(int man, int men) {
        int others = ~(1 << man);
        boolean in = false;
        boolean out = false;
        for (int set = 0; set <= MOST_SIGNS; set++) {
            int wearers = band.wearers(set, true);
            if ((wearers & others) == (men & others)) {
                boolean wears = isIn(wearers, man);
                in |= wears;
                out |= !wears;
            }
        }
        return in && out;
    }

    /** Whether one who does this, while the other does that, would get no more by doing otherwise. */
    private static boolean rests(int trust, int own, int other) {
        return gets(trust, own, other) >= gets(trust, 1 - own, other);
    }

    private static int gets(int trust, int own, int other) {
        if (own == 0) {
            return trust < 20 ? 3 : 1;
        }
        return other == 0 ? 4 : 2 - trust / 30;
    }

    private static boolean isIn(int men, int man) {
        return (men >> man & 1) == 1;
    }

    private static boolean isTest(int test) {
        return test >= 0 && test < TESTS;
    }

    private static boolean isNeed(int j) {
        return j >= 0 && j <= MOST_KEPT;
    }

    private static boolean isWeighed(int k) {
        return k >= 0 && k <= MOST_WEIGHED;
    }

    private static int costOf(int test) {
        return test >= 0 && test < COSTS.length ? COSTS[test] : MOST_DAYLIGHT + 1;
    }

    private static int casesOf(int kind, int what, boolean word) {
        if (what == RIVER && word && (kind == BOASTER || kind == SPY)) {
            return CASES_BY_WORD;
        }
        int at = kind * (HOLDING + 1) + what;
        return at >= 0 && at < CASES.length ? CASES[at] : 0;
    }

    /** Euclid's way; a hundred steps are more than numbers of this size can need. */
    private static long greatestCommon(long a, long b) {
        for (int step = 0; step < 100 && b != 0; step++) {
            long rest = a % b;
            a = b;
            b = rest;
        }
        return a;
    }

    /** The weights of one man, taken out to be weighed. */
    private static final class Row {
        private static final long MOST_WEIGHT = 999999;
        private static final int MOST_HALVINGS = 64;

        private final long[] weights = new long[KINDS];

        void load(Band band, int man) {
            for (int kind = 0; kind < KINDS; kind++) {
                weights[kind] = band == null ? 0 : band.weightOf(man, kind);
            }
        }

        void store(Band band, int man) {
            for (int kind = 0; kind < KINDS; kind++) {
                if (band != null) {
                    band.setWeight(man, kind, weights[kind]);
                }
            }
        }

        void dropSpy() {
            weights[SPY] = 0;
        }

        boolean isEmpty() {
            return sum() == 0;
        }

        void weigh(int test, boolean shown, boolean word) {
            for (int kind = 0; kind < KINDS; kind++) {
                int cases = casesOf(kind, test, word);
                weights[kind] *= shown ? cases : ALL_CASES - cases;
            }
            if (isEmpty()) {
                for (int kind = 0; kind < KINDS; kind++) {
                    weights[kind] = 1;
                }
            }
            long common = 0;
            for (int kind = 0; kind < KINDS; kind++) {
                common = greatestCommon(common, weights[kind]);
            }
            cutBy(common);
            for (int step = 0; step < MOST_HALVINGS && most() > MOST_WEIGHT; step++) {
                cutBy(2);
            }
        }

        /** In how many of 60 cases he shows or holds it. */
        int chance(int what, boolean word) {
            long cases = 0;
            for (int kind = 0; kind < KINDS; kind++) {
                cases += weights[kind] * casesOf(kind, what, word);
            }
            long all = ALL_CASES * sum();
            return all > 0 ? (int) (PARTS * cases / all) : 0;
        }

        private void cutBy(long divisor) {
            for (int kind = 0; kind < KINDS; kind++) {
                if (divisor > 0) {
                    weights[kind] /= divisor;
                }
            }
        }

        private long sum() {
            long sum = 0;
            for (int kind = 0; kind < KINDS; kind++) {
                sum += weights[kind];
            }
            return sum;
        }

        private long most() {
            long most = 0;
            for (int kind = 0; kind < KINDS; kind++) {
                most = Math.max(most, weights[kind]);
            }
            return most;
        }
    }

    /** The men along the bank and all that was told of them. What is told answers as its call does. */
    private static final class Band {
        private static final int FIRST_DAYLIGHT = 40;
        private static final int MOST_TOLD_WEIGHT = 9;

        private final long[] weights = new long[MOST_MEN * KINDS];
        private final int[] signs = new int[MOST_MEN];
        private final int[] brothers = new int[MOST_MEN];
        private final Row row = new Row();
        private int size;
        private int informed;
        private int daylight = FIRST_DAYLIGHT;

        boolean has(int man) {
            return man >= 0 && man < size;
        }

        boolean hasAll(int men) {
            return men >= 0 && men < 1 << size;
        }

        int begin(int newDaylight) {
            if (newDaylight < 0 || newDaylight > MOST_DAYLIGHT) {
                return BAD;
            }
            int before = size;
            size = 0;
            informed = 0;
            daylight = newDaylight;
            return before;
        }

        int enrol(int[] told) {
            if (told == null || told.length != KINDS || !areWeights(told)) {
                return BAD;
            }
            int man = size;
            if (man < 0 || man >= MOST_MEN) {
                return FULL;
            }
            for (int kind = 0; kind < KINDS; kind++) {
                setWeight(man, kind, told[kind]);
            }
            signs[man] = 0;
            brothers[man] = 0;
            size++;
            return man;
        }

        private static boolean areWeights(int[] told) {
            boolean any = false;
            for (int i = 0; i < told.length; i++) {
                if (told[i] < 0 || told[i] > MOST_TOLD_WEIGHT) {
                    return false;
                }
                any |= told[i] > 0;
            }
            return any;
        }

        int dress(int man, int newSigns) {
            if (!has(man) || man >= signs.length || newSigns < 0 || newSigns > MOST_SIGNS) {
                return BAD;
            }
            int before = signs[man];
            signs[man] = newSigns;
            return before;
        }

        int bind(int a, int b) {
            if (!has(a) || !has(b) || a == b || a >= brothers.length || b >= brothers.length) {
                return BAD;
            }
            if (areBrothers(a, b)) {
                return NO;
            }
            brothers[a] |= 1 << b;
            brothers[b] |= 1 << a;
            return 1;
        }

        int inform(int man) {
            if (!has(man)) {
                return BAD;
            }
            if (knows(man)) {
                return NO;
            }
            informed |= 1 << man;
            return 1;
        }

        boolean knows(int man) {
            return isIn(informed, man);
        }

        long weightOf(int man, int kind) {
            int at = man * KINDS + kind;
            return at >= 0 && at < weights.length ? weights[at] : 0;
        }

        void setWeight(int man, int kind, long weight) {
            int at = man * KINDS + kind;
            if (at >= 0 && at < weights.length) {
                weights[at] = weight;
            }
        }

        int signsOf(int man) {
            return man >= 0 && man < signs.length ? signs[man] : 0;
        }

        int brothersOf(int man) {
            return man >= 0 && man < brothers.length ? brothers[man] : 0;
        }

        boolean areBrothers(int a, int b) {
            return isIn(brothersOf(a), b);
        }

        int pairs() {
            int ends = 0;
            for (int man = 0; man < size; man++) {
                ends += Integer.bitCount(brothersOf(man));
            }
            return ends / 2;
        }

        int likeliestOf(int man) {
            int likeliest = 0;
            for (int kind = 1; kind < KINDS; kind++) {
                if (weightOf(man, kind) > weightOf(man, likeliest)) {
                    likeliest = kind;
                }
            }
            return likeliest;
        }

        int trustOf(int man) {
            row.load(this, man);
            return row.chance(HOLDING, false);
        }

        int showsOf(int man, int test) {
            row.load(this, man);
            return row.chance(test, knows(man));
        }

        /** His trust once this man was tested, be he the one or his brother or neither. */
        int trustBehind(int man, int tested, int test, boolean shown) {
            row.load(this, man);
            if (man == tested || areBrothers(man, tested)) {
                row.weigh(test, shown, knows(man));
            }
            return row.chance(HOLDING, false);
        }

        void pass(int tested, int test, boolean shown) {
            for (int man = 0; man < size; man++) {
                if (man == tested || areBrothers(man, tested)) {
                    row.load(this, man);
                    row.weigh(test, shown, knows(man));
                    row.store(this, man);
                }
            }
            if (test == RIVER) {
                informed |= besides(tested);
            }
            daylight -= costOf(test);
        }

        /** Those who stand beside a man. */
        int besides(int man) {
            int below = has(man - 1) ? 1 << (man - 1) : 0;
            int above = has(man + 1) ? 1 << (man + 1) : 0;
            return below | above;
        }

        /** Those who wear all signs of a set, or any of them. */
        int wearers(int set, boolean all) {
            int men = 0;
            for (int man = 0; man < size; man++) {
                int worn = signsOf(man) & set;
                if (all ? worn == set : worn != 0) {
                    men |= 1 << man;
                }
            }
            return men;
        }

        void become(Band other) {
            if (other == null) {
                return;
            }
            System.arraycopy(other.weights, 0, weights, 0, MOST_MEN * KINDS);
            System.arraycopy(other.signs, 0, signs, 0, MOST_MEN);
            System.arraycopy(other.brothers, 0, brothers, 0, MOST_MEN);
            size = other.size;
            informed = other.informed;
            daylight = other.daylight;
        }
    }

    /** The last tests that may be undone: a ring of what stood ahead of each. */
    private static final class Past {
        private static final int DEPTH = 8;
        private static final int SLOT = MOST_MEN * KINDS;

        private final long[] weights = new long[DEPTH * SLOT];
        private final int[] informed = new int[DEPTH];
        private final int[] daylight = new int[DEPTH];
        private int oldest;
        private int size;

        void push(Band band) {
            if (size == DEPTH) {
                oldest = (oldest + 1) % DEPTH;
                size--;
            }
            int slot = (oldest + size) % DEPTH;
            if (band == null || slot < 0) {
                return;
            }
            System.arraycopy(band.weights, 0, weights, slot * SLOT, SLOT);
            informed[slot] = band.informed;
            daylight[slot] = band.daylight;
            size++;
        }

        boolean pop(Band band) {
            if (band == null || size <= 0) {
                return false;
            }
            size--;
            int slot = (oldest + size) % DEPTH;
            if (slot < 0) {
                return false;
            }
            System.arraycopy(weights, slot * SLOT, band.weights, 0, SLOT);
            band.informed = informed[slot];
            band.daylight = daylight[slot];
            return true;
        }

        void forget() {
            size = 0;
        }

        void become(Past other) {
            if (other == null) {
                return;
            }
            System.arraycopy(other.weights, 0, weights, 0, DEPTH * SLOT);
            System.arraycopy(other.informed, 0, informed, 0, DEPTH);
            System.arraycopy(other.daylight, 0, daylight, 0, DEPTH);
            oldest = other.oldest;
            size = other.size;
        }
    }

    /** What an image keeps, if it was ever kept. */
    private static final class Image {
        private final Band band = new Band();
        private final Past past = new Past();
        private boolean exists;
    }

    /** How many of a set of men hold, each by his trust and apart from the others. */
    private static final class Odds {
        private final int[] trusts = new int[MOST_MEN];
        private final long[] ways = new long[MOST_MEN + 1];
        private int bestMen;

        void seeNow(Band band) {
            for (int man = 0; man < MOST_MEN; man++) {
                trusts[man] = band != null && man < band.size ? band.trustOf(man) : 0;
            }
        }

        void seeBehind(Band band, int tested, int test, boolean shown) {
            for (int man = 0; man < MOST_MEN; man++) {
                boolean stands = band != null && man < band.size;
                trusts[man] = stands ? band.trustBehind(man, tested, test, shown) : 0;
            }
        }

        int trustSeen(int man) {
            return man >= 0 && man < trusts.length ? trusts[man] : 0;
        }

        /** In how many of 60 to the number of these men j of them at least hold. */
        long waysToHold(int men, int j) {
            for (int holding = 1; holding <= MOST_MEN; holding++) {
                ways[holding] = 0;
            }
            ways[0] = 1;
            for (int man = 0; man < MOST_MEN; man++) {
                if (isIn(men, man)) {
                    addMan(trusts[man]);
                }
            }
            long sum = 0;
            for (int holding = 0; holding <= MOST_MEN; holding++) {
                sum += holding >= j ? ways[holding] : 0;
            }
            return sum;
        }

        private void addMan(int trust) {
            for (int holding = MOST_MEN; holding > 0; holding--) {
                ways[holding] = ways[holding] * (PARTS - trust) + ways[holding - 1] * trust;
            }
            ways[0] *= PARTS - trust;
        }

        /** Finds the best set of k men, the least of like ones; its ways. */
        long chooseBest(int size, int k, int j) {
            long most = -1;
            for (int men = 0; men < 1 << size; men++) {
                if (Integer.bitCount(men) == k) {
                    long sum = waysToHold(men, j);
                    if (sum > most) {
                        most = sum;
                        bestMen = men;
                    }
                }
            }
            return most;
        }
    }

    /** The fewest tests, all shown, by which a man is trusted so far. */
    private static final class Sifted {
        private final int[] tests = new int[MOST_SIFTED];
        private final Row row = new Row();
        private int size;

        boolean find(Band band, int man, int t) {
            int rows = 1;
            for (int length = 0; length <= MOST_SIFTED; length++) {
                for (int code = 0; code < rows; code++) {
                    decode(code, length);
                    if (fits(band, man, t)) {
                        return true;
                    }
                }
                rows *= TESTS;
            }
            return false;
        }

        int testAt(int i) {
            return i >= 0 && i < tests.length ? tests[i] : NONE;
        }

        /** Codes that rise give rows that rise, the first test being the leading figure. */
        private void decode(int code, int length) {
            size = length;
            int rest = code;
            for (int i = MOST_SIFTED - 1; i >= 0; i--) {
                if (i < length) {
                    tests[i] = rest % TESTS;
                    rest /= TESTS;
                }
            }
        }

        private boolean fits(Band band, int man, int t) {
            if (band == null) {
                return false;
            }
            row.load(band, man);
            int cost = 0;
            for (int i = 0; i < size && i < tests.length; i++) {
                cost += costOf(tests[i]);
                row.weigh(tests[i], true, band.knows(man));
            }
            return cost <= band.daylight && row.chance(HOLDING, false) >= t;
        }
    }

    /** The bytes of the text that may tell a muster. */
    private static final class Text {
        private static final int MOST_BYTES = 150;
        private static final int MOST_BYTE = 127;

        private final int[] bytes = new int[MOST_BYTES];
        private int size;

        int append(int c) {
            if (c < 0 || c > MOST_BYTE) {
                return BAD;
            }
            if (size < 0 || size >= MOST_BYTES) {
                return FULL;
            }
            bytes[size] = c;
            size++;
            return size;
        }

        int empty() {
            int before = size;
            size = 0;
            return before;
        }

        /** The byte there, NONE outside of the text. */
        int byteAt(int place) {
            return place >= 0 && place < size && place < MOST_BYTES ? bytes[place] : NONE;
        }

        boolean spells(String word, int start, int end) {
            if (word == null || word.length() != end - start) {
                return false;
            }
            for (int i = 0; i < word.length(); i++) {
                if (byteAt(start + i) != word.charAt(i)) {
                    return false;
                }
            }
            return true;
        }
    }

    /** Reads its text token by token and item by item, and tells the items to a draft. */
    private static final class Reader {
        private static final int NOTHING = 0;
        private static final int WORD = 1;
        private static final int NUMBER = 2;
        private static final int ITEM_END = 3;

        private static final int MUSTER = 0;
        private static final int MAN = 1;
        private static final int WORN = 2;
        private static final int PAIR = 3;
        private static final int REACHED = 4;
        private static final int MOST_FIGURES = 2;

        /** How many numbers each item has. */
        private static final int[] NEEDS = {1, 6, 2, 2, 1};

        private final Text text = new Text();
        private final Band draft = new Band();
        private final int[] numbers = new int[KINDS];
        private int place;
        private int start;
        private int token;
        private int value;
        private int item;
        private int items;

        /** The place of the fault, NONE without one; counts the items. */
        int findFault() {
            place = 0;
            items = 0;
            for (int i = 0; i <= Text.MOST_BYTES; i++) {
                skipBlanks();
                if (i > 0 && text.byteAt(place) == NONE) {
                    return NONE;
                }
                if (!readItem(i == 0)) {
                    return start;
                }
                items++;
            }
            return NONE;
        }

        /** Tells all items of a text without a fault to the draft; the first that is refused, or NONE. */
        int tellDraft() {
            place = 0;
            for (int i = 0; i < items; i++) {
                if (!readItem(i == 0) || tellItem() < 0) {
                    return i;
                }
            }
            return NONE;
        }

        private int tellItem() {
            switch (item) {
                case MUSTER:
                    return draft.begin(numbers[0]);
                case MAN:
                    return draft.enrol(numbers);
                case WORN:
                    return draft.dress(numbers[0], numbers[1]);
                case PAIR:
                    return draft.bind(numbers[0], numbers[1]);
                case REACHED:
                    return draft.inform(numbers[0]);
                default:
                    return BAD;
            }
        }

        /** False if a token can not stand there: then it begins at start. */
        private boolean readItem(boolean first) {
            readToken();
            if (token != WORD || first != (value == MUSTER)) {
                return false;
            }
            item = value;
            int needs = item >= 0 && item < NEEDS.length ? NEEDS[item] : 0;
            for (int i = 0; i < needs && i < numbers.length; i++) {
                readToken();
                if (token != NUMBER) {
                    return false;
                }
                numbers[i] = value;
            }
            readToken();
            return token == ITEM_END;
        }

        private void readToken() {
            skipBlanks();
            start = place;
            token = NOTHING;
            int c = text.byteAt(place);
            if (isLetter(c)) {
                readWord();
            } else if (isFigure(c)) {
                readNumber();
            } else if (c == ';') {
                token = ITEM_END;
                place++;
            }
        }

        private void readWord() {
            for (int i = 0; i < Text.MOST_BYTES && isLetter(text.byteAt(place)); i++) {
                place++;
            }
            token = WORD;
            if (text.spells("muster", start, place)) {
                value = MUSTER;
            } else if (text.spells("man", start, place)) {
                value = MAN;
            } else if (text.spells("worn", start, place)) {
                value = WORN;
            } else if (text.spells("pair", start, place)) {
                value = PAIR;
            } else if (text.spells("word", start, place)) {
                value = REACHED;
            } else {
                token = NOTHING;
            }
        }

        private void readNumber() {
            value = 0;
            for (int i = 0; i < Text.MOST_BYTES && isFigure(text.byteAt(place)); i++) {
                if (i < MOST_FIGURES) {
                    value = 10 * value + text.byteAt(place) - '0';
                }
                place++;
            }
            token = place - start <= MOST_FIGURES ? NUMBER : NOTHING;
        }

        private void skipBlanks() {
            for (int i = 0; i < Text.MOST_BYTES && text.byteAt(place) == ' '; i++) {
                place++;
            }
        }

        private static boolean isLetter(int c) {
            return c >= 'a' && c <= 'z';
        }

        private static boolean isFigure(int c) {
            return c >= '0' && c <= '9';
        }
    }
}
