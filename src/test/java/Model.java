import java.math.BigDecimal;
import java.math.BigInteger;
import java.util.ArrayList;
import java.util.Arrays;
import java.util.HashMap;
import java.util.List;
import java.util.Map;
import java.util.regex.Matcher;
import java.util.regex.Pattern;

/**
 * The document once more, as slow and as near to its words as can be: exact decimals, every set tried,
 * every way walked. It shares no code and no shortcut with the class that it is held against.
 */
final class Model {
    static final int NONE = -1, UNKNOWN = -101, OUTSIDE = -102, STATE = -103, FULL = -104;
    private static final String PART =
        "(-|a[1-9](b[1-9])?(c[1-9])?(d[1-9])?|b[1-9](c[1-9])?(d[1-9])?|c[1-9](d[1-9])?|d[1-9])";
    private static final Pattern BELL = Pattern.compile(PART + "(/" + PART + "){5}");
    private static final Pattern RULE = Pattern.compile("[0-9]+[+][0-9]");

    private static final class Person {
        int kind;
        int cost;
        int[] told = new int[4];

        int mends(int thing, int hour) {
            if (hour > 5) {
                return 0;
            }
            if (kind == 1) {
                return Math.min(9, told[thing]);
            }
            boolean half = kind == 4 || (kind == 2 && hour < 3);
            return half ? told[thing] / 2 : told[thing];
        }
    }

    private String page = "";
    private int[][] tenths = new int[6][4];
    private String ruleText = "";
    private final List<Person> people = new ArrayList<>();
    private int[] harms = {50, 50, 50, 50};
    private int hour = 0;
    private int woken = 0;
    private int mended = 0;
    private int left = 0;
    private int[] kept = null;
    private int[] keptHarms = null;
    private int[][] keptTold = null;

    // ---- texts

    int letters(long w) {
        String more = "";
        boolean ended = false;
        for (int i = 0; i < 8; i++) {
            int code = (int) ((w >> (8 * i)) & 0xff);
            if (code > 126 || (ended && code != 0)) {
                return OUTSIDE;
            }
            ended |= code == 0;
            more += ended ? "" : String.valueOf((char) code);
        }
        if ((page + more).length() > 55) {
            return FULL;
        }
        page += more;
        return page.length();
    }

    int blank() {
        int had = page.length();
        page = "";
        return had;
    }

    int fault(int sort) {
        if (sort != 0 && sort != 1) {
            return OUTSIDE;
        }
        for (int i = 0; i < page.length(); i++) {
            String text = page.substring(0, i + 1);
            if (!(sort == 0 ? beginsBell(text) : beginsRule(text))) {
                return i;
            }
        }
        return page.length();
    }

    private static boolean begins(Pattern pattern, String text) {
        Matcher matcher = pattern.matcher(text);
        return matcher.matches() || matcher.hitEnd();
    }

    private static boolean beginsBell(String text) {
        for (String part : text.split("/")) {
            if (part.chars().filter(c -> c >= '0' && c <= '9').map(c -> c - '0').sum() > 10) {
                return false;
            }
        }
        return begins(BELL, text);
    }

    private boolean beginsRule(String text) {
        String names = text.contains("+") ? text.substring(0, text.indexOf('+')) : text;
        boolean unlike = names.chars().distinct().count() == names.length();
        boolean there = names.chars().allMatch(c -> c - '0' < people.size());
        return unlike && there && begins(RULE, text);
    }

    int bell() {
        if (fault(0) < page.length() || !BELL.matcher(page).matches()) {
            return STATE;
        }
        tenths = new int[6][4];
        String[] parts = page.split("/");
        for (int h = 0; h < 6; h++) {
            for (int i = 0; i + 1 < parts[h].length(); i += 2) {
                tenths[h][parts[h].charAt(i) - 'a'] = parts[h].charAt(i + 1) - '0';
            }
        }
        page = "";
        return count(6);
    }

    int rule() {
        if (fault(1) < page.length() || !RULE.matcher(page).matches()) {
            return STATE;
        }
        ruleText = page;
        page = "";
        return count(7);
    }

    int tenths(int h, int thing) {
        return h < 0 || h > 5 || thing < 0 || thing > 3 ? UNKNOWN : tenths[h][thing];
    }

    // ---- sleepers

    int sleeper(int kind, int cost) {
        if (kind < 0 || kind > 4 || cost < 0 || cost > 99) {
            return OUTSIDE;
        }
        if (hour >= 1) {
            return STATE;
        }
        if (people.size() == 7) {
            return FULL;
        }
        Person person = new Person();
        person.kind = kind;
        person.cost = cost;
        people.add(person);
        return people.size() - 1;
    }

    private boolean unknown(int s) {
        return s < 0 || s >= people.size();
    }

    int skill(int s, int thing, int v) {
        if (unknown(s) || thing < 0 || thing > 3) {
            return UNKNOWN;
        }
        if (v < 0 || v > 99) {
            return OUTSIDE;
        }
        int was = people.get(s).told[thing];
        people.get(s).told[thing] = v;
        return was;
    }

    int harm(int thing, int v) {
        if (thing < 0 || thing > 3) {
            return UNKNOWN;
        }
        if (v < 0 || v > 99) {
            return OUTSIDE;
        }
        int was = harms[thing];
        harms[thing] = v;
        return was;
    }

    private boolean may(int s, int h, int up) {
        int kind = people.get(s).kind;
        if (kind == 1) {
            return true;
        }
        return (up & 1 << s) == 0 && !(kind == 3 && (h == 4 || h == 5));
    }

    int about(int s, int what) {
        if (unknown(s)) {
            return UNKNOWN;
        }
        if (what >= 10 && what <= 13) {
            return people.get(s).mends(what - 10, hour);
        }
        switch (what) {
            case 0: return people.get(s).kind;
            case 1: return people.get(s).cost;
            case 2: return (woken & 1 << s) != 0 ? 1 : 0;
            case 3: return may(s, hour, woken) ? 1 : 0;
            default: return OUTSIDE;
        }
    }

    int as(int s, int kind) {
        if (unknown(s)) {
            return UNKNOWN;
        }
        if (kind < 0 || kind > 4) {
            return OUTSIDE;
        }
        int own = people.get(s).kind;
        List<Integer> kinds = own == 4 ? List.of(0, 2, 4) : List.of(0, own);
        return kinds.contains(kind) ? s : NONE;
    }

    // ---- the night

    private int gain(int set, int thing, int h) {
        int sum = 0;
        for (int s = 0; s < people.size(); s++) {
            sum += (set & 1 << s) != 0 ? people.get(s).mends(thing, h) : 0;
        }
        return Math.min(sum, harms[thing]);
    }

    private int wakes(int set) {
        int wakes = 0;
        for (int s = 0; s < people.size(); s++) {
            wakes |= (set & 1 << s) != 0 && people.get(s).kind != 1 ? 1 << s : 0;
        }
        return wakes;
    }

    private boolean mayAll(int set, int h, int up) {
        for (int s = 0; s < people.size(); s++) {
            if ((set & 1 << s) != 0 && !may(s, h, up)) {
                return false;
            }
        }
        return true;
    }

    private int all() {
        return (1 << people.size()) - 1;
    }

    int come(int thing, int set) {
        if (thing < -1 || thing > 3) {
            return UNKNOWN;
        }
        if ((set & ~all()) != 0 || Integer.bitCount(set) > 2) {
            return OUTSIDE;
        }
        if (hour > 5 || !mayAll(set, hour, woken) || (thing == NONE && set != 0)) {
            return STATE;
        }
        int now = thing == NONE ? 0 : gain(set, thing, hour);
        mended += now;
        left += thing == NONE ? 0 : harms[thing] - now;
        woken |= wakes(set);
        hour++;
        return now;
    }

    int evening() {
        hour = 0;
        woken = 0;
        return left;
    }

    // ---- what is best

    private BigDecimal mean(int h, int up, int house, Map<Integer, BigDecimal> known) {
        if (h > 5) {
            return BigDecimal.ZERO;
        }
        int key = h * 128 + up;
        BigDecimal mean = known.get(key);
        if (mean == null) {
            mean = BigDecimal.ZERO;
            int rest = 10;
            for (int thing = 0; thing < 4; thing++) {
                int chance = tenths[h][thing];
                if (chance > 0) {
                    rest -= chance;
                    BigDecimal then = meanBy(choice(h, up, house, thing, known), h, up, house, thing, known);
                    mean = mean.add(BigDecimal.valueOf(chance, 1).multiply(then));
                }
            }
            mean = mean.add(BigDecimal.valueOf(rest, 1).multiply(mean(h + 1, up, house, known)));
            known.put(key, mean);
        }
        return mean;
    }

    private BigDecimal meanBy(int set, int h, int up, int house, int thing, Map<Integer, BigDecimal> known) {
        return BigDecimal.valueOf(gain(set, thing, h)).add(mean(h + 1, up | wakes(set), house, known));
    }

    private static boolean before(int set, int other) {
        int fewer = Integer.bitCount(other) - Integer.bitCount(set);
        return fewer > 0 || (fewer == 0 && set < other);
    }

    private int choice(int h, int up, int house, int thing, Map<Integer, BigDecimal> known) {
        int chosen = -1;
        BigDecimal most = null;
        for (int set = all(); set >= 0; set--) {
            if ((set & ~house) == 0 && Integer.bitCount(set) <= 2 && mayAll(set, h, up)) {
                BigDecimal by = meanBy(set, h, up, house, thing, known);
                int more = most == null ? 1 : by.compareTo(most);
                if (more > 0 || (more == 0 && before(set, chosen))) {
                    chosen = set;
                    most = by;
                }
            }
        }
        return chosen;
    }

    private static long part(BigDecimal value, int part) {
        BigInteger below = BigInteger.TEN.pow(6);
        BigInteger above = value.multiply(new BigDecimal(below)).toBigIntegerExact();
        BigInteger divisor = above.gcd(below);
        return (part == 0 ? above : below).divide(divisor).longValueExact();
    }

    long best(int part) {
        return part != 0 && part != 1 ? OUTSIDE : part(mean(hour, woken, all(), new HashMap<>()), part);
    }

    int whom(int thing) {
        if (thing < 0 || thing > 3) {
            return UNKNOWN;
        }
        return hour > 5 ? STATE : choice(hour, woken, all(), thing, new HashMap<>());
    }

    int worst() {
        return worst(hour, woken, new HashMap<>());
    }

    private int worst(int h, int up, Map<Integer, Integer> known) {
        if (h > 5) {
            return 0;
        }
        int key = h * 128 + up;
        if (!known.containsKey(key)) {
            int worst = worst(h + 1, up, known);
            for (int thing = 0; thing < 4; thing++) {
                if (tenths[h][thing] > 0) {
                    int least = Integer.MAX_VALUE;
                    for (int set = 0; set <= all(); set++) {
                        if (Integer.bitCount(set) <= 2 && mayAll(set, h, up)) {
                            int now = harms[thing] - gain(set, thing, h);
                            least = Math.min(least, now + worst(h + 1, up | wakes(set), known));
                        }
                    }
                    worst = Math.max(worst, least);
                }
            }
            known.put(key, worst);
        }
        return known.get(key);
    }

    int known(int code) {
        if (code < 0 || code >= Math.pow(5, 6 - hour)) {
            return OUTSIDE;
        }
        return known(hour, woken, code, new HashMap<>());
    }

    private int known(int h, int up, int code, Map<Integer, Integer> known) {
        if (h > 5) {
            return 0;
        }
        int key = h * 128 + up;
        if (!known.containsKey(key)) {
            int most = 0;
            for (int set = 0; set <= all(); set++) {
                if (Integer.bitCount(set) <= 2 && mayAll(set, h, up) && (code % 5 > 0 || set == 0)) {
                    int now = code % 5 == 0 ? 0 : gain(set, code % 5 - 1, h);
                    most = Math.max(most, now + known(h + 1, up | wakes(set), code / 5, known));
                }
            }
            known.put(key, most);
        }
        return known.get(key);
    }

    private int ruled(int h, int thing, int up) {
        int plus = ruleText.indexOf('+');
        for (int i = 0; i < plus; i++) {
            int s = ruleText.charAt(i) - '0';
            if (may(s, h, up) && people.get(s).mends(thing, h) >= (ruleText.charAt(plus + 1) - '0') * 10) {
                return 1 << s;
            }
        }
        return 0;
    }

    private BigDecimal ruledMean(int h, int up) {
        if (h > 5) {
            return BigDecimal.ZERO;
        }
        BigDecimal mean = BigDecimal.ZERO;
        int rest = 10;
        for (int thing = 0; thing < 4; thing++) {
            if (tenths[h][thing] > 0) {
                int set = ruled(h, thing, up);
                BigDecimal then = BigDecimal.valueOf(gain(set, thing, h)).add(ruledMean(h + 1, up | wakes(set)));
                mean = mean.add(BigDecimal.valueOf(tenths[h][thing], 1).multiply(then));
                rest -= tenths[h][thing];
            }
        }
        return rest == 0 ? mean : mean.add(BigDecimal.valueOf(rest, 1).multiply(ruledMean(h + 1, up)));
    }

    long byRule(int part) {
        if (part != 0 && part != 1) {
            return OUTSIDE;
        }
        return ruleText.isEmpty() ? STATE : part(ruledMean(hour, woken), part);
    }

    long worth(int s, int part) {
        if (unknown(s)) {
            return UNKNOWN;
        }
        if (part != 0 && part != 1) {
            return OUTSIDE;
        }
        BigDecimal without = mean(0, 0, all() & ~(1 << s), new HashMap<>());
        return part(mean(0, 0, all(), new HashMap<>()).subtract(without), part);
    }

    int roster(int cost) {
        if (cost < 0 || cost > 999) {
            return OUTSIDE;
        }
        int chosen = 0;
        BigDecimal most = BigDecimal.ZERO;
        for (int set = all(); set > 0; set--) {
            int costs = 0;
            for (int s = 0; s < people.size(); s++) {
                costs += (set & 1 << s) != 0 ? people.get(s).cost : 0;
            }
            if (costs <= cost) {
                BigDecimal mean = mean(0, 0, set, new HashMap<>());
                int more = mean.compareTo(most);
                if (more > 0 || (more == 0 && before(set, chosen))) {
                    chosen = set;
                    most = mean;
                }
            }
        }
        return chosen;
    }

    // ---- in the morning

    /** Of each way that leaves just this set woken: how often each figure came in each hour. */
    private int[][] ways(int set) {
        int[][] came = new int[6][5];
        for (int code = 0; code < 15625; code++) {
            int up = 0;
            int rest = code;
            boolean lets = true;
            for (int h = 0; h < 6 && lets; h++) {
                int figure = rest % 5;
                rest /= 5;
                if (figure > 0) {
                    lets = tenths[h][figure - 1] > 0;
                    up |= wakes(ruled(h, figure - 1, up));
                }
            }
            rest = code;
            for (int h = 0; h < 6 && lets && up == set; h++) {
                came[h][rest % 5]++;
                rest /= 5;
            }
        }
        return came;
    }

    private boolean noSet(int set) {
        return (set & ~all()) != 0 || wakes(set) != set;
    }

    int seen(int set) {
        if (noSet(set)) {
            return OUTSIDE;
        }
        return ruleText.isEmpty() ? STATE : Arrays.stream(ways(set)[0]).sum();
    }

    int sure(int set, int h) {
        if (noSet(set)) {
            return OUTSIDE;
        }
        if (h < 0 || h > 5) {
            return UNKNOWN;
        }
        if (ruleText.isEmpty()) {
            return STATE;
        }
        int[] came = ways(set)[h];
        for (int figure = 0; figure < 5; figure++) {
            if (came[figure] > 0 && came[figure] == Arrays.stream(came).sum()) {
                return figure;
            }
        }
        return NONE;
    }

    int night(int seed, int what) {
        if (seed < 0 || what < 0 || what > 2) {
            return OUTSIDE;
        }
        if (what == 1 && ruleText.isEmpty()) {
            return NONE;
        }
        BigInteger draws = BigInteger.valueOf(seed);
        int up = woken;
        int sum = 0;
        for (int h = hour; h < 6; h++) {
            draws = draws.multiply(BigInteger.valueOf(1103515245)).add(BigInteger.valueOf(12345))
                .mod(BigInteger.TWO.pow(31));
            int draw = draws.divide(BigInteger.valueOf(65536)).mod(BigInteger.TEN).intValueExact();
            int thing = 0;
            for (int added = 0; thing < 4 && (added += tenths[h][thing]) <= draw;) {
                thing++;
            }
            if (thing < 4 && what < 2) {
                int set = what == 0 ? choice(h, up, all(), thing, new HashMap<>()) : ruled(h, thing, up);
                sum += gain(set, thing, h);
                up |= wakes(set);
            }
        }
        return what == 2 ? draws.intValueExact() : sum;
    }

    // ---- what is told of all

    int image() {
        kept = new int[] {hour, woken, mended, left, people.size()};
        keptHarms = harms.clone();
        keptTold = people.stream().map(person -> person.told.clone()).toArray(int[][]::new);
        return hour;
    }

    int restore() {
        if (kept == null || kept[4] != people.size()) {
            return STATE;
        }
        hour = kept[0];
        woken = kept[1];
        mended = kept[2];
        left = kept[3];
        harms = keptHarms.clone();
        for (int s = 0; s < people.size(); s++) {
            people.get(s).told = keptTold[s].clone();
        }
        return hour;
    }

    int count(int what) {
        switch (what) {
            case 0: return people.size();
            case 1: return hour;
            case 2: return Integer.bitCount(woken);
            case 3: return mended;
            case 4: return left;
            case 5: return page.length();
            case 6: return (int) Arrays.stream(tenths).flatMapToInt(Arrays::stream).filter(t -> t > 0).count();
            case 7: return Math.max(0, ruleText.indexOf('+'));
            default: return OUTSIDE;
        }
    }

    long digest() {
        List<Long> numbers = new ArrayList<>();
        for (int[] part : tenths) {
            for (int chance : part) {
                numbers.add((long) chance);
            }
        }
        for (int harm : harms) {
            numbers.add((long) harm);
        }
        for (int s = 0; s < people.size(); s++) {
            for (int what : new int[] {0, 1, 2, 3, 10, 11, 12, 13}) {
                numbers.add((long) about(s, what));
            }
        }
        numbers.addAll(List.of(best(0), best(1), (long) worst()));
        if (!ruleText.isEmpty()) {
            numbers.addAll(List.of(byRule(0), byRule(1)));
        }
        numbers.add((long) roster(50));
        page.chars().forEach(code -> numbers.add((long) code));
        for (int what = 0; what < 8; what++) {
            numbers.add((long) count(what));
        }
        long h = 643;
        for (long number : numbers) {
            h = 31 * h + number;
        }
        return h;
    }
}
