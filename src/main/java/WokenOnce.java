/**
 * Sleepers in a house who may each be woken once in a night: whom to wake, for what.
 *
 * A set of sleepers is an int, bit s for sleeper s. A nurse is never spent by being called,
 * so she stays in the set of those asleep; all that is planned is planned over such sets.
 */
public final class WokenOnce {
    public static final int NONE = -1, UNKNOWN = -101, OUTSIDE = -102, STATE = -103, FULL = -104;

    private static final int HOURS = 6;
    private static final int THINGS = 4;
    private static final int FIGURES = THINGS + 1;
    private static final int BEDS = 7;
    private static final int SETS = 128;
    private static final int TENTHS_IN_ALL = 10;
    private static final int TELLS_MENDS = 10;
    private static final int COUNTS = 8;
    private static final int DIGEST_COST = 50;
    private static final int BY_BEST = 0, BY_RULE = 1, SEED_THEN = 2;

    private static final long[] POWERS_OF_TEN = {1, 10, 100, 1000, 10000, 100000, 1000000};
    private static final int[] POWERS_OF_FIVE = {1, 5, 25, 125, 625, 3125, 15625};

    private final Page page = new Page();
    private final BellReader bellReader = new BellReader();
    private final RuleReader ruleReader = new RuleReader();
    private final Bell bell = new Bell();
    private final Rule rule = new Rule();
    private final House house = new House();
    private final Night night = new Night();
    private final Image image = new Image();
    private final Choices choices = new Choices();
    private final Table plan = new Table();
    private final Table work = new Table();
    private boolean planReady;

    public WokenOnce() {
    }

    // ---- texts

    public int letters(long w) {
        int many = lettersIn(w);
        if (many < 0) {
            return OUTSIDE;
        }
        if (page.length + many > Page.ROOM) {
            return FULL;
        }
        for (int i = 0; i < many; i++) {
            page.add(byteOf(w, i));
        }
        return page.length;
    }

    public int blank() {
        int had = page.length;
        page.length = 0;
        return had;
    }

    public int fault(int sort) {
        if (sort == 0) {
            bellReader.begin();
            return page.readBy(bellReader);
        }
        if (sort == 1) {
            ruleReader.begin(house.size);
            return page.readBy(ruleReader);
        }
        return OUTSIDE;
    }

    public int bell() {
        bellReader.begin();
        if (page.readBy(bellReader) < page.length || !bellReader.isWhole()) {
            return STATE;
        }
        bell.take(bellReader);
        page.length = 0;
        planReady = false;
        return bell.pairs;
    }

    public int rule() {
        ruleReader.begin(house.size);
        if (page.readBy(ruleReader) < page.length || !ruleReader.isWhole()) {
            return STATE;
        }
        rule.take(ruleReader);
        page.length = 0;
        return rule.size;
    }

    public int tenths(int hour, int thing) {
        if (!isHour(hour) || !isThing(thing)) {
            return UNKNOWN;
        }
        return bell.chance(hour, thing);
    }

    // ---- sleepers

    public int sleeper(int kind, int cost) {
        if (!House.isKind(kind) || !isUpTo99(cost)) {
            return OUTSIDE;
        }
        if (night.hour > 0) {
            return STATE;
        }
        if (house.size >= BEDS) {
            return FULL;
        }
        house.add(kind, cost);
        planReady = false;
        return house.size - 1;
    }

    public int skill(int sleeper, int thing, int v) {
        if (!house.has(sleeper) || !isThing(thing)) {
            return UNKNOWN;
        }
        if (!isUpTo99(v)) {
            return OUTSIDE;
        }
        int was = house.told(sleeper, thing);
        house.tell(sleeper, thing, v);
        planReady = false;
        return was;
    }

    public int harm(int thing, int v) {
        if (!isThing(thing)) {
            return UNKNOWN;
        }
        if (!isUpTo99(v)) {
            return OUTSIDE;
        }
        int was = house.harmOf(thing);
        house.setHarm(thing, v);
        planReady = false;
        return was;
    }

    public int about(int sleeper, int what) {
        if (!house.has(sleeper)) {
            return UNKNOWN;
        }
        switch (what) {
            case 0:
                return house.kindOf(sleeper);
            case 1:
                return house.costOf(sleeper);
            case 2:
                return night.woke(sleeper) ? 1 : 0;
            case 3:
                return house.mayBeWoken(sleeper, night.hour, night.woken) ? 1 : 0;
            default:
                return aboutThing(sleeper, what);
        }
    }

    public int as(int sleeper, int kind) {
        if (!house.has(sleeper)) {
            return UNKNOWN;
        }
        if (!House.isKind(kind)) {
            return OUTSIDE;
        }
        return house.isOf(sleeper, kind) ? sleeper : NONE;
    }

    // ---- the night

    public int come(int thing, int set) {
        if (thing != NONE && !isThing(thing)) {
            return UNKNOWN;
        }
        if (!house.isSet(set) || Integer.bitCount(set) > 2) {
            return OUTSIDE;
        }
        if (night.hour >= HOURS || !mayAll(set) || (thing == NONE && set != 0)) {
            return STATE;
        }
        int mended = house.mendedBy(set, thing, night.hour);
        night.pass(house.spent(set), mended, house.harmOf(thing) - mended);
        return mended;
    }

    public int evening() {
        night.hour = 0;
        night.woken = 0;
        return night.left;
    }

    // ---- what is best

    public long best(int part) {
        if (!isPart(part)) {
            return OUTSIDE;
        }
        makePlan();
        return partOf(plan.at(night.hour, asleep()), powerOfTen(HOURS - night.hour), part);
    }

    public int whom(int thing) {
        if (!isThing(thing)) {
            return UNKNOWN;
        }
        if (night.hour >= HOURS) {
            return STATE;
        }
        makePlan();
        return plannedSet(night.hour, thing, asleep());
    }

    public int worst() {
        work.clear(HOURS);
        for (int hour = HOURS - 1; hour >= night.hour && hour >= 0; hour--) {
            expectNothing(hour);
            for (int thing = 0; thing < THINGS; thing++) {
                if (bell.chance(hour, thing) > 0) {
                    fearThing(hour, thing);
                }
            }
        }
        return (int) -work.at(night.hour, asleep());
    }

    public int known(int code) {
        if (code < 0 || code >= powerOfFive(HOURS - night.hour)) {
            return OUTSIDE;
        }
        work.clear(HOURS);
        for (int hour = HOURS - 1; hour >= night.hour && hour >= 0; hour--) {
            int figure = figureOf(code, hour - night.hour);
            expectNothing(hour);
            if (figure > 0) {
                expectThing(hour, figure - 1);
            }
        }
        return (int) work.at(night.hour, asleep());
    }

    public long byRule(int part) {
        if (!isPart(part)) {
            return OUTSIDE;
        }
        if (rule.size == 0) {
            return STATE;
        }
        long mended = 0;
        beginWays(night.hour, night.woken);
        for (int hour = night.hour; hour < HOURS; hour++) {
            mended += weighHour(hour) * powerOfTen(HOURS - 1 - hour);
        }
        return partOf(mended, powerOfTen(HOURS - night.hour), part);
    }

    public long worth(int sleeper, int part) {
        if (!house.has(sleeper)) {
            return UNKNOWN;
        }
        if (!isPart(part)) {
            return OUTSIDE;
        }
        makePlan();
        int all = house.everybody();
        return partOf(plan.at(0, all) - plan.at(0, all & ~(1 << sleeper)), powerOfTen(HOURS), part);
    }

    public int roster(int cost) {
        if (cost < 0 || cost > 999) {
            return OUTSIDE;
        }
        makePlan();
        int chosen = 0;
        int all = house.everybody();
        for (int set = 1; set <= all && set < SETS; set++) {
            if (house.costOfSet(set) <= cost && isBetterRoster(set, chosen)) {
                chosen = set;
            }
        }
        return chosen;
    }

    // ---- in the morning

    public int seen(int set) {
        if (!house.isSetToWake(set)) {
            return OUTSIDE;
        }
        if (rule.size == 0) {
            return STATE;
        }
        return (int) waysTo(set, NONE, 0);
    }

    public int sure(int set, int hour) {
        if (!house.isSetToWake(set)) {
            return OUTSIDE;
        }
        if (!isHour(hour)) {
            return UNKNOWN;
        }
        if (rule.size == 0) {
            return STATE;
        }
        int only = NONE;
        for (int figure = 0; figure < FIGURES; figure++) {
            if (waysTo(set, hour, figure) > 0) {
                if (only != NONE) {
                    return NONE;
                }
                only = figure;
            }
        }
        return only;
    }

    public int night(int seed, int what) {
        if (seed < 0 || what < BY_BEST || what > SEED_THEN) {
            return OUTSIDE;
        }
        if (what == BY_RULE && rule.size == 0) {
            return NONE;
        }
        if (what == BY_BEST) {
            makePlan();
        }
        return drawNight(seed, what);
    }

    // ---- what is told of all

    public int image() {
        image.keep(house, night);
        return night.hour;
    }

    public int restore() {
        if (image.size != house.size) {
            return STATE;
        }
        image.giveBack(house, night);
        planReady = false;
        return night.hour;
    }

    public int count(int what) {
        switch (what) {
            case 0:
                return house.size;
            case 1:
                return night.hour;
            case 2:
                return Integer.bitCount(night.woken);
            case 3:
                return night.mended;
            case 4:
                return night.left;
            case 5:
                return page.length;
            case 6:
                return bell.pairs;
            case 7:
                return rule.size;
            default:
                return OUTSIDE;
        }
    }

    public long digest() {
        long h = digestOfHouse(643);
        h = mix(h, best(0));
        h = mix(h, best(1));
        h = mix(h, worst());
        if (rule.size > 0) {
            h = mix(h, byRule(0));
            h = mix(h, byRule(1));
        }
        h = mix(h, roster(DIGEST_COST));
        for (int place = 0; place < page.length; place++) {
            h = mix(h, page.codeAt(place));
        }
        for (int what = 0; what < COUNTS; what++) {
            h = mix(h, count(what));
        }
        return h;
    }

    // ---- what the calls are made of

    private static boolean isHour(int hour) {
        return hour >= 0 && hour < HOURS;
    }

    private static boolean isThing(int thing) {
        return thing >= 0 && thing < THINGS;
    }

    private static boolean isUpTo99(int v) {
        return v >= 0 && v <= 99;
    }

    private static boolean isPart(int part) {
        return part == 0 || part == 1;
    }

    private static long powerOfTen(int exponent) {
        return exponent >= 0 && exponent < POWERS_OF_TEN.length ? POWERS_OF_TEN[exponent] : 1;
    }

    private static int powerOfFive(int exponent) {
        return exponent >= 0 && exponent < POWERS_OF_FIVE.length ? POWERS_OF_FIVE[exponent] : 1;
    }

    private static int figureOf(int code, int place) {
        int divisor = powerOfFive(place);
        return divisor > 0 ? code / divisor % FIGURES : 0;
    }

    private static int byteOf(long w, int i) {
        return (int) (w >>> (8 * i)) & 255;
    }

    /** How many letters w tells, or -1 if it tells none as it should. */
    private static int lettersIn(long w) {
        int many = 0;
        for (int i = 0; i < 8; i++) {
            int code = byteOf(w, i);
            if (code > 126 || (code != 0 && many < i)) {
                return -1;
            }
            if (code != 0) {
                many++;
            }
        }
        return many;
    }

    private static long mix(long h, long number) {
        return 31 * h + number;
    }

    private static long greatestDivisor(long a, long b) {
        long greater = a;
        long less = b;
        for (int i = 0; i < 100 && less != 0; i++) {
            long rest = greater % less;
            greater = less;
            less = rest;
        }
        return greater;
    }

    /** A fraction's part in lowest terms: 0 above, 1 below. */
    private static long partOf(long above, long below, int part) {
        long divisor = greatestDivisor(below, above);
        if (divisor <= 0) {
            return 0;
        }
        return (part == 0 ? above : below) / divisor;
    }

    private static int nextSeed(int seed) {
        return (int) ((1103515245L * seed + 12345L) & 2147483647L);
    }

    private int asleep() {
        return house.everybody() & ~night.woken;
    }

    private boolean mayAll(int set) {
        for (int s = 0; s < BEDS; s++) {
            if ((set >> s & 1) == 1 && !house.mayBeWoken(s, night.hour, night.woken)) {
                return false;
            }
        }
        return true;
    }

    private int aboutThing(int sleeper, int what) {
        if (what < TELLS_MENDS || what >= TELLS_MENDS + THINGS) {
            return OUTSIDE;
        }
        return house.mends(sleeper, what - TELLS_MENDS, night.hour);
    }

    private long digestOfHouse(long begun) {
        long h = begun;
        for (int hour = 0; hour < HOURS; hour++) {
            for (int thing = 0; thing < THINGS; thing++) {
                h = mix(h, bell.chance(hour, thing));
            }
        }
        for (int thing = 0; thing < THINGS; thing++) {
            h = mix(h, house.harmOf(thing));
        }
        for (int s = 0; s < house.size; s++) {
            for (int what = 0; what < 4; what++) {
                h = mix(h, about(s, what));
            }
            for (int thing = 0; thing < THINGS; thing++) {
                h = mix(h, about(s, TELLS_MENDS + thing));
            }
        }
        return h;
    }

    /**
     * One plan tells BEST of every hour for every set of sleepers, so it serves who is still
     * asleep now, a house without one of them, and every roster alike.
     */
    private void makePlan() {
        if (planReady) {
            return;
        }
        for (int hour = HOURS - 1; hour >= 0; hour--) {
            int rest = TENTHS_IN_ALL;
            plan.clear(hour);
            for (int thing = 0; thing < THINGS; thing++) {
                int chance = bell.chance(hour, thing);
                if (chance > 0) {
                    planThing(hour, thing, chance);
                    rest -= chance;
                }
            }
            for (int set = 0; set <= house.everybody() && set < SETS; set++) {
                plan.add(hour, set, rest * plan.at(hour + 1, set));
            }
        }
        planReady = true;
    }

    /** The plan's numbers are whole: BEST times ten to the power of how many hours are left. */
    private void planThing(int hour, int thing, long chance) {
        long unit = powerOfTen(HOURS - 1 - hour);
        choices.gather(house, hour, thing);
        for (int set = 0; set <= house.everybody() && set < SETS; set++) {
            plan.add(hour, set, chance * choices.most(plan, hour + 1, set, unit));
        }
    }

    private int plannedSet(int hour, int thing, int asleep) {
        choices.gather(house, hour, thing);
        choices.most(plan, hour + 1, asleep, powerOfTen(HOURS - 1 - hour));
        return choices.picked;
    }

    private boolean isBetterRoster(int set, int than) {
        long more = plan.at(0, set) - plan.at(0, than);
        return more > 0 || (more == 0 && Integer.bitCount(set) < Integer.bitCount(than));
    }

    private void expectNothing(int hour) {
        for (int set = 0; set <= house.everybody() && set < SETS; set++) {
            work.put(hour, set, work.at(hour + 1, set));
        }
    }

    private void expectThing(int hour, int thing) {
        choices.gather(house, hour, thing);
        for (int set = 0; set <= house.everybody() && set < SETS; set++) {
            work.put(hour, set, choices.most(work, hour + 1, set, 1));
        }
    }

    /** What is left stands below zero here, so that most is best as it is elsewhere. */
    private void fearThing(int hour, int thing) {
        int harm = house.harmOf(thing);
        choices.gather(house, hour, thing);
        for (int set = 0; set <= house.everybody() && set < SETS; set++) {
            long feared = choices.most(work, hour + 1, set, 1) - harm;
            work.put(hour, set, Math.min(feared, work.at(hour, set)));
        }
    }

    /** Whom the rule wakes: one or nobody. */
    private int ruledSet(int hour, int thing, int woken) {
        for (int i = 0; i < rule.size; i++) {
            int s = rule.at(i);
            if (house.mayBeWoken(s, hour, woken) && house.mends(s, thing, hour) >= 10 * rule.tens) {
                return 1 << s;
            }
        }
        return 0;
    }

    private void beginWays(int hour, int woken) {
        for (int later = hour; later <= HOURS; later++) {
            work.clear(later);
        }
        work.put(hour, woken, 1);
    }

    /** Hands on the weight of each set that may be woken by now; what is mended in the hour, so weighed. */
    private long weighHour(int hour) {
        long mended = 0;
        for (int woken = 0; woken < SETS; woken++) {
            long weight = work.at(hour, woken);
            if (weight > 0) {
                mended += weighThings(hour, woken, weight);
            }
        }
        return mended;
    }

    private long weighThings(int hour, int woken, long weight) {
        long mended = 0;
        int rest = TENTHS_IN_ALL;
        for (int thing = 0; thing < THINGS; thing++) {
            int chance = bell.chance(hour, thing);
            if (chance > 0) {
                int set = ruledSet(hour, thing, woken);
                mended += weight * chance * house.mendedBy(set, thing, hour);
                work.add(hour + 1, woken | house.spent(set), weight * chance);
                rest -= chance;
            }
        }
        work.add(hour + 1, woken, weight * rest);
        return mended;
    }

    /** In how many ways just this set is woken by the rule; in the fixed hour nothing but the figure comes. */
    private long waysTo(int set, int fixedHour, int figure) {
        beginWays(0, 0);
        for (int hour = 0; hour < HOURS; hour++) {
            for (int woken = 0; woken < SETS; woken++) {
                long ways = work.at(hour, woken);
                if (ways > 0) {
                    goOn(hour, woken, ways, hour == fixedHour ? figure : NONE);
                }
            }
        }
        return work.at(HOURS, set);
    }

    private void goOn(int hour, int woken, long ways, int figure) {
        if (figure == NONE || figure == 0) {
            work.add(hour + 1, woken, ways);
        }
        for (int thing = 0; thing < THINGS; thing++) {
            boolean comes = figure == NONE || figure == thing + 1;
            if (comes && bell.chance(hour, thing) > 0) {
                work.add(hour + 1, woken | house.spent(ruledSet(hour, thing, woken)), ways);
            }
        }
    }

    /** What is mended from this hour on as the seed lets it come, or the seed then. */
    private int drawNight(int seed, int what) {
        int drawn = seed;
        int woken = night.woken;
        int mended = 0;
        for (int hour = night.hour; hour < HOURS; hour++) {
            drawn = nextSeed(drawn);
            int thing = bell.thingBy(hour, drawn / 65536 % TENTHS_IN_ALL);
            if (thing != NONE && what != SEED_THEN) {
                int set = what == BY_RULE ? ruledSet(hour, thing, woken)
                    : plannedSet(hour, thing, house.everybody() & ~woken);
                mended += house.mendedBy(set, thing, hour);
                woken |= house.spent(set);
            }
        }
        return what == SEED_THEN ? drawn : mended;
    }

    /** Reads a text letter by letter. */
    private abstract static class Reader {
        /** Whether a text may go on with this letter; if so, it does. */
        abstract boolean takes(int code);

        abstract boolean isWhole();
    }

    private static final class Page {
        static final int ROOM = 55;

        final int[] codes = new int[ROOM];
        int length;

        void add(int code) {
            if (length >= 0 && length < ROOM) {
                codes[length] = code;
                length++;
            }
        }

        int codeAt(int place) {
            return place >= 0 && place < ROOM ? codes[place] : 0;
        }

        /** The place of the first letter that the reader does not take, or how many there are. */
        int readBy(Reader reader) {
            for (int place = 0; place < length; place++) {
                if (!reader.takes(codeAt(place))) {
                    return place;
                }
            }
            return length;
        }
    }

    private static final class BellReader extends Reader {
        static final int AT_PART = 0, BEHIND_DASH = 1, BEHIND_LETTER = 2, BEHIND_DIGIT = 3;

        final int[] chances = new int[HOURS * THINGS];
        int pairs;
        int hour;
        int thing;
        int sum;
        int place;

        void begin() {
            for (int i = 0; i < HOURS * THINGS; i++) {
                chances[i] = 0;
            }
            pairs = 0;
            beginPart(0);
        }

        private void beginPart(int ofHour) {
            hour = ofHour;
            thing = NONE;
            sum = 0;
            place = AT_PART;
        }

        boolean takes(int code) {
            switch (place) {
                case AT_PART:
                    return takesDash(code) || takesLetter(code);
                case BEHIND_DASH:
                    return takesSlash(code);
                case BEHIND_LETTER:
                    return takesDigit(code);
                default:
                    return takesSlash(code) || takesLetter(code);
            }
        }

        boolean isWhole() {
            return hour == HOURS - 1 && (place == BEHIND_DASH || place == BEHIND_DIGIT);
        }

        private boolean takesDash(int code) {
            if (code != '-') {
                return false;
            }
            place = BEHIND_DASH;
            return true;
        }

        private boolean takesSlash(int code) {
            if (code != '/' || hour >= HOURS - 1) {
                return false;
            }
            beginPart(hour + 1);
            return true;
        }

        private boolean takesLetter(int code) {
            int named = code - 'a';
            if (named <= thing || named >= THINGS) {
                return false;
            }
            thing = named;
            place = BEHIND_LETTER;
            return true;
        }

        private boolean takesDigit(int code) {
            int digit = code - '0';
            int at = hour * THINGS + thing;
            if (digit < 1 || digit > 9 || sum + digit > TENTHS_IN_ALL || at < 0 || at >= HOURS * THINGS) {
                return false;
            }
            chances[at] = digit;
            sum += digit;
            pairs++;
            place = BEHIND_DIGIT;
            return true;
        }
    }

    private static final class RuleReader extends Reader {
        static final int AT_SLEEPERS = 0, BEHIND_PLUS = 1, AT_END = 2;

        final int[] order = new int[BEDS];
        int size;
        int tens;
        int sleepers;
        int named;
        int place;

        void begin(int howManySleepers) {
            size = 0;
            tens = 0;
            sleepers = howManySleepers;
            named = 0;
            place = AT_SLEEPERS;
        }

        boolean takes(int code) {
            switch (place) {
                case AT_SLEEPERS:
                    return takesPlus(code) || takesSleeper(code);
                case BEHIND_PLUS:
                    return takesTens(code);
                default:
                    return false;
            }
        }

        boolean isWhole() {
            return place == AT_END;
        }

        private boolean takesPlus(int code) {
            if (code != '+' || size == 0) {
                return false;
            }
            place = BEHIND_PLUS;
            return true;
        }

        private boolean takesSleeper(int code) {
            int s = code - '0';
            if (s < 0 || s >= sleepers || size >= BEDS || (named >> s & 1) == 1) {
                return false;
            }
            order[size] = s;
            size++;
            named |= 1 << s;
            return true;
        }

        private boolean takesTens(int code) {
            int digit = code - '0';
            if (digit < 0 || digit > 9) {
                return false;
            }
            tens = digit;
            place = AT_END;
            return true;
        }
    }

    private static final class Bell {
        final int[] chances = new int[HOURS * THINGS];
        int pairs;

        void take(BellReader read) {
            System.arraycopy(read.chances, 0, chances, 0, HOURS * THINGS);
            pairs = read.pairs;
        }

        int chance(int hour, int thing) {
            return isHour(hour) && isThing(thing) ? chances[hour * THINGS + thing] : 0;
        }

        /** What comes by a draw, or NONE. */
        int thingBy(int hour, int draw) {
            int sum = 0;
            for (int thing = 0; thing < THINGS; thing++) {
                sum += chance(hour, thing);
                if (sum > draw) {
                    return thing;
                }
            }
            return NONE;
        }
    }

    /** No sleepers: there is no rule. */
    private static final class Rule {
        final int[] order = new int[BEDS];
        int size;
        int tens;

        void take(RuleReader read) {
            System.arraycopy(read.order, 0, order, 0, BEDS);
            size = read.size;
            tens = read.tens;
        }

        int at(int i) {
            return i >= 0 && i < BEDS ? order[i] : NONE;
        }
    }

    private static final class House {
        static final int SLEEPER = 0, NURSE = 1, HEAVY = 2, EARLY = 3, OLD = 4;
        static final int NURSE_MENDS = 9;
        static final int HEAVY_TILL = 2;
        static final int EARLY_UP_FROM = 4;

        final int[] kinds = new int[BEDS];
        final int[] costs = new int[BEDS];
        final int[] skills = new int[BEDS * THINGS];
        final int[] harms = {50, 50, 50, 50};
        int size;
        int nurses;

        static boolean isKind(int kind) {
            return kind >= SLEEPER && kind <= OLD;
        }

        void add(int kind, int cost) {
            if (size >= 0 && size < BEDS) {
                kinds[size] = kind;
                costs[size] = cost;
                nurses |= kind == NURSE ? 1 << size : 0;
                size++;
            }
        }

        boolean has(int s) {
            return s >= 0 && s < size;
        }

        int kindOf(int s) {
            return s >= 0 && s < BEDS ? kinds[s] : SLEEPER;
        }

        int costOf(int s) {
            return s >= 0 && s < BEDS ? costs[s] : 0;
        }

        boolean isOf(int s, int kind) {
            int own = kindOf(s);
            return kind == SLEEPER || own == kind || (own == OLD && kind == HEAVY);
        }

        int told(int s, int thing) {
            return s >= 0 && s < BEDS && thing >= 0 && thing < THINGS ? skills[s * THINGS + thing] : 0;
        }

        void tell(int s, int thing, int v) {
            if (s >= 0 && s < BEDS && thing >= 0 && thing < THINGS) {
                skills[s * THINGS + thing] = v;
            }
        }

        int harmOf(int thing) {
            return isThing(thing) ? harms[thing] : 0;
        }

        void setHarm(int thing, int v) {
            if (isThing(thing)) {
                harms[thing] = v;
            }
        }

        int everybody() {
            return (1 << size) - 1;
        }

        boolean isSet(int set) {
            return set >= 0 && set <= everybody();
        }

        boolean isSetToWake(int set) {
            return isSet(set) && (set & nurses) == 0;
        }

        /** Who of a set sleeps no more when it is woken. */
        int spent(int set) {
            return set & ~nurses;
        }

        int costOfSet(int set) {
            int sum = 0;
            for (int s = 0; s < size; s++) {
                sum += (set >> s & 1) == 1 ? costOf(s) : 0;
            }
            return sum;
        }

        boolean mayBeWoken(int s, int hour, int woken) {
            switch (kindOf(s)) {
                case NURSE:
                    return true;
                case EARLY:
                    // the words name hours 4 and 5 alone, so not 6, when the night is over
                    return (woken >> s & 1) == 0 && (hour < EARLY_UP_FROM || hour >= HOURS);
                default:
                    return (woken >> s & 1) == 0;
            }
        }

        int mends(int s, int thing, int hour) {
            if (!isHour(hour)) {
                return 0;
            }
            int told = told(s, thing);
            switch (kindOf(s)) {
                case NURSE:
                    return Math.min(told, NURSE_MENDS);
                case HEAVY:
                    return hour <= HEAVY_TILL ? told / 2 : told;
                case OLD:
                    return told / 2;
                default:
                    return told;
            }
        }

        int mendedBy(int set, int thing, int hour) {
            int sum = 0;
            for (int s = 0; s < size; s++) {
                sum += (set >> s & 1) == 1 ? mends(s, thing, hour) : 0;
            }
            return Math.min(sum, harmOf(thing));
        }
    }

    private static final class Night {
        int hour;
        int woken;
        int mended;
        int left;

        boolean woke(int s) {
            return (woken >> s & 1) == 1;
        }

        void pass(int nowWoken, int nowMended, int nowLeft) {
            woken |= nowWoken;
            mended += nowMended;
            left += nowLeft;
            hour++;
        }
    }

    private static final class Image {
        final int[] skills = new int[BEDS * THINGS];
        final int[] harms = new int[THINGS];
        int size = NONE;
        int hour;
        int woken;
        int mended;
        int left;

        void keep(House house, Night night) {
            System.arraycopy(house.skills, 0, skills, 0, BEDS * THINGS);
            System.arraycopy(house.harms, 0, harms, 0, THINGS);
            size = house.size;
            hour = night.hour;
            woken = night.woken;
            mended = night.mended;
            left = night.left;
        }

        void giveBack(House house, Night night) {
            System.arraycopy(skills, 0, house.skills, 0, BEDS * THINGS);
            System.arraycopy(harms, 0, house.harms, 0, THINGS);
            night.hour = hour;
            night.woken = woken;
            night.mended = mended;
            night.left = left;
        }
    }

    /** Whom to wake for a thing in an hour, if anybody: sets in the order in which of like ones the first is taken. */
    private static final class Choices {
        static final int ROOM = BEDS + BEDS * (BEDS - 1) / 2;

        final int[] sets = new int[ROOM];
        final int[] spent = new int[ROOM];
        final long[] gains = new long[ROOM];
        final int[] alone = new int[BEDS];
        int size;
        int picked;

        /** Who adds nothing is left out: the set without him is as good and smaller. */
        void gather(House house, int hour, int thing) {
            int harm = house.harmOf(thing);
            size = 0;
            for (int s = 0; s < BEDS; s++) {
                boolean may = house.has(s) && house.mayBeWoken(s, hour, 0);
                alone[s] = may ? Math.min(harm, house.mends(s, thing, hour)) : 0;
                if (alone[s] > 0) {
                    add(house, 1 << s, alone[s]);
                }
            }
            for (int high = 1; high < BEDS; high++) {
                for (int low = 0; low < high; low++) {
                    int both = Math.min(harm, alone[low] + alone[high]);
                    if (both > alone[low] && both > alone[high]) {
                        add(house, 1 << high | 1 << low, both);
                    }
                }
            }
        }

        private void add(House house, int set, int gain) {
            if (size >= 0 && size < ROOM) {
                sets[size] = set;
                spent[size] = house.spent(set);
                gains[size] = gain;
                size++;
            }
        }

        /** What is gained at most, now and by what the table tells of who sleeps then; by the set picked. */
        long most(Table table, int nextHour, int asleep, long unit) {
            long most = table.at(nextHour, asleep);
            picked = 0;
            for (int choice = 0; choice < size && choice < ROOM; choice++) {
                if ((sets[choice] & ~asleep) == 0) {
                    long gained = gains[choice] * unit + table.at(nextHour, asleep & ~spent[choice]);
                    if (gained > most) {
                        most = gained;
                        picked = sets[choice];
                    }
                }
            }
            return most;
        }
    }

    /** A number for each hour (the one when the night is over, too) and each set of sleepers. */
    private static final class Table {
        final long[] values = new long[(HOURS + 1) * SETS];

        long at(int hour, int set) {
            return has(hour, set) ? values[hour * SETS + set] : 0;
        }

        void put(int hour, int set, long value) {
            if (has(hour, set)) {
                values[hour * SETS + set] = value;
            }
        }

        void add(int hour, int set, long more) {
            put(hour, set, at(hour, set) + more);
        }

        void clear(int hour) {
            for (int set = 0; set < SETS; set++) {
                put(hour, set, 0);
            }
        }

        private static boolean has(int hour, int set) {
            return hour >= 0 && hour <= HOURS && set >= 0 && set < SETS;
        }
    }
}
