import java.math.BigDecimal;
import java.util.ArrayList;
import java.util.Arrays;
import java.util.List;
import java.util.Random;

/**
 * The terms by their own words, one HOUR at a time and by calls of the class alone: what is told now is held against
 * what is told an HOUR later, in each way in which it can come and for each set that can be woken.
 * So the calls are held against one another, without a second reading of the document.
 */
public final class StepTest {
    private static final int NURSE = 1;

    private final Random random;
    private final String name;
    /** Few numbers, so that there are like choices everywhere. */
    private final boolean plain;
    private final int[] kinds;
    private final int[] costs;
    private final int[][] mends;
    private final int[] harms = new int[4];
    private final String bell;
    private final String rule;
    private final List<int[]> path = new ArrayList<>();

    private StepTest(int seed, int beds, int rareness) {
        random = new Random(seed);
        name = "house " + seed + ": ";
        plain = seed % 3 == 0;
        kinds = random.ints(beds, 0, 5).toArray();
        costs = random.ints(beds, 0, 30).toArray();
        mends = new int[beds][];
        for (int s = 0; s < beds; s++) {
            mends[s] = new int[] {some(), some(), some(), some()};
        }
        for (int thing = 0; thing < 4; thing++) {
            harms[thing] = plain ? 20 : 20 + some();
        }
        bell = bellText(rareness);
        rule = ruleText();
    }

    public static void main(String[] args) {
        for (int seed = 0; seed < 60; seed++) {
            StepTest house = new StepTest(seed, 1 + seed % 5, 2);
            house.nightByNight();
            house.theHouse();
        }
        for (int seed = 100; seed < 112; seed++) {
            new StepTest(seed, 1 + seed % 4, 4).theMorning();
        }
        Check.end("StepTest");
    }

    private int some() {
        if (plain) {
            return 10 * random.nextInt(3);
        }
        return random.nextBoolean() ? random.nextInt(80) : 10 * random.nextInt(5);
    }

    private String bellText(int rareness) {
        String[] parts = new String[6];
        for (int hour = 0; hour < 6; hour++) {
            StringBuilder part = new StringBuilder();
            int rest = 10;
            for (int thing = 0; thing < 4 && rest > 0; thing++) {
                if (random.nextInt(rareness) == 0) {
                    int chance = 1 + random.nextInt(Math.min(9, rest));
                    part.append((char) ('a' + thing)).append(chance);
                    rest -= chance;
                }
            }
            parts[hour] = part.length() == 0 ? "-" : part.toString();
        }
        return String.join("/", parts);
    }

    private String ruleText() {
        StringBuilder text = new StringBuilder();
        for (int s = 0; s < kinds.length; s++) {
            if (s == 0 || random.nextInt(4) > 0) {
                text.insert(random.nextInt(text.length() + 1), s);
            }
        }
        return text.append("+").append(random.nextInt(4)).toString();
    }

    /** The house with these sleepers alone; they are numbered anew. */
    private WokenOnce of(int set) {
        WokenOnce x = new WokenOnce();
        for (int s = 0; s < kinds.length; s++) {
            if ((set & 1 << s) != 0) {
                Check.bed(x, kinds[s], costs[s], mends[s]);
            }
        }
        for (int thing = 0; thing < 4; thing++) {
            x.harm(thing, harms[thing]);
        }
        Check.ring(x, bell);
        return x;
    }

    private int all() {
        return (1 << kinds.length) - 1;
    }

    /** The whole house in this HOUR, as the path led there, with an image of it. */
    private WokenOnce now() {
        WokenOnce x = of(all());
        Check.hang(x, rule);
        for (int[] step : path) {
            x.come(step[0], step[1]);
        }
        x.image();
        return x;
    }

    private static BigDecimal fraction(long above, long below) {
        return BigDecimal.valueOf(above).divide(BigDecimal.valueOf(below));
    }

    private static BigDecimal best(WokenOnce x) {
        return fraction(x.best(0), x.best(1));
    }

    private static BigDecimal byRule(WokenOnce x) {
        return fraction(x.byRule(0), x.byRule(1));
    }

    private void same(String what, BigDecimal got, BigDecimal want) {
        Check.holds(name + what + " is " + got + ", due is " + want, got.compareTo(want) == 0);
    }

    /** The sets that may be woken now for a THING: nobody, one, or two who MAY be. */
    private List<Integer> sets(WokenOnce x) {
        List<Integer> sets = new ArrayList<>();
        for (int set = 0; set <= all(); set++) {
            boolean may = Integer.bitCount(set) <= 2;
            for (int s = 0; s < kinds.length && may; s++) {
                may = (set & 1 << s) == 0 || x.about(s, 3) == 1;
            }
            if (may) {
                sets.add(set);
            }
        }
        return sets;
    }

    /** "the first of these who MAY be woken and MENDS ten times that or more of it is woken, alone; else nobody" */
    private int ruled(WokenOnce x, int thing) {
        int plus = rule.indexOf('+');
        int least = 10 * (rule.charAt(plus + 1) - '0');
        for (int i = 0; i < plus; i++) {
            int s = rule.charAt(i) - '0';
            if (x.about(s, 3) == 1 && x.about(s, 10 + thing) >= least) {
                return 1 << s;
            }
        }
        return 0;
    }

    private void nightByNight() {
        for (int hour = 0; hour <= 6; hour++) {
            WokenOnce x = now();
            Check.due(name + "the hour", x.count(1), hour);
            if (hour < 6) {
                bestByOneStep(x);
                for (int thing = 0; thing < 4; thing++) {
                    whomByOneStep(now(), thing);
                }
                worstByOneStep();
                knownByOneStep(hour);
                byRuleByOneStep(now());
            } else {
                over(x);
            }
            drawnNights();
            path.add(step(now()));
        }
    }

    private int[] step(WokenOnce x) {
        int thing = random.nextInt(6) - 1;
        List<Integer> sets = sets(x);
        boolean comes = thing >= 0 && thing < 4;
        return comes ? new int[] {thing, sets.get(random.nextInt(sets.size()))} : new int[] {Check.NONE, 0};
    }

    /** "what is MENDED in the mean from this HOUR on, if always that is done by which it is most": as WHOM tells it. */
    private void bestByOneStep(WokenOnce x) {
        int hour = x.count(1);
        BigDecimal told = best(x);
        BigDecimal mean = BigDecimal.ZERO;
        int rest = 10;
        for (int thing = 0; thing < 4; thing++) {
            int tenths = x.tenths(hour, thing);
            int mended = x.come(thing, x.whom(thing));
            mean = mean.add(best(x).add(BigDecimal.valueOf(mended)).multiply(BigDecimal.valueOf(tenths, 1)));
            rest -= tenths;
            x.restore();
        }
        x.come(Check.NONE, 0);
        same("best in hour " + hour, told, mean.add(best(x).multiply(BigDecimal.valueOf(rest, 1))));
    }

    /** "WHOM to wake now, if a THING came: of like ones fewest, then least bits." */
    private void whomByOneStep(WokenOnce x, int thing) {
        int told = x.whom(thing);
        int chosen = -1;
        BigDecimal most = null;
        for (int set : sets(x)) {
            int mended = x.come(thing, set);
            BigDecimal then = best(x).add(BigDecimal.valueOf(mended));
            int more = most == null ? 1 : then.compareTo(most);
            if (more > 0 || (more == 0 && Integer.bitCount(set) < Integer.bitCount(chosen))) {
                chosen = set;
                most = then;
            }
            x.restore();
        }
        Check.due(name + "whom(" + thing + ") in hour " + x.count(1), told, chosen);
    }

    /** "the least that can be LEFT from this HOUR on, whatever comes (of what THE BELL lets come, or nothing)" */
    private void worstByOneStep() {
        WokenOnce x = now();
        int hour = x.count(1);
        int told = x.worst();
        x.come(Check.NONE, 0);
        int worst = x.worst();
        for (int thing = 0; thing < 4; thing++) {
            x = now();
            if (x.tenths(hour, thing) > 0) {
                int least = Integer.MAX_VALUE;
                int before = x.count(4);
                for (int set : sets(x)) {
                    x.come(thing, set);
                    least = Math.min(least, x.count(4) - before + x.worst());
                    x.restore();
                }
                worst = Math.max(worst, least);
            }
        }
        Check.due(name + "worst in hour " + hour, told, worst);
    }

    /** "what is MENDED at most, if all is known that comes from this HOUR on" */
    private void knownByOneStep(int hour) {
        int codes = (int) Math.pow(5, 6 - hour);
        for (int i = 0; i < 6; i++) {
            WokenOnce x = now();
            int code = random.nextInt(codes);
            int told = x.known(code);
            int thing = code % 5 - 1;
            int most = 0;
            for (int set : thing == Check.NONE ? List.of(0) : sets(x)) {
                int mended = x.come(thing, set);
                most = Math.max(most, mended + x.known(code / 5));
                x.restore();
            }
            Check.due(name + "known(" + code + ") in hour " + hour, told, most);
        }
    }

    /** "BYRULE: what is MENDED in the mean from this HOUR on by it"; a boy does no better by it than the best. */
    private void byRuleByOneStep(WokenOnce x) {
        int hour = x.count(1);
        BigDecimal told = byRule(x);
        Check.holds(name + "the rule is no better than the best", told.compareTo(best(x)) <= 0);
        BigDecimal mean = BigDecimal.ZERO;
        int rest = 10;
        for (int thing = 0; thing < 4; thing++) {
            int tenths = x.tenths(hour, thing);
            int mended = x.come(thing, ruled(x, thing));
            mean = mean.add(byRule(x).add(BigDecimal.valueOf(mended)).multiply(BigDecimal.valueOf(tenths, 1)));
            rest -= tenths;
            x.restore();
        }
        x.come(Check.NONE, 0);
        same("byRule in hour " + hour, told, mean.add(byRule(x).multiply(BigDecimal.valueOf(rest, 1))));
    }

    /** "A NIGHT has HOURS 0 to 5 (6: it is over)": nothing comes more. */
    private void over(WokenOnce x) {
        same("best when it is over", best(x), BigDecimal.ZERO);
        same("byRule when it is over", byRule(x), BigDecimal.ZERO);
        Check.due(name + "worst when it is over", x.worst(), 0);
        Check.due(name + "known when it is over", x.known(0), 0);
    }

    /** "NIGHTS by a SEED": the NIGHT played on from this HOUR, as WHOM tells or by THE RULE. */
    private void drawnNights() {
        for (int what = 0; what < 2; what++) {
            for (int i = 0; i < 3; i++) {
                WokenOnce x = now();
                int seed = random.nextInt(Integer.MAX_VALUE);
                int told = x.night(seed, what);
                int then = x.night(seed, 2);
                long drawn = seed;
                int mended = 0;
                for (int hour = x.count(1); hour < 6; hour++) {
                    drawn = Math.floorMod(1103515245L * drawn + 12345L, 2147483648L);
                    int thing = thingBy(x, hour, drawn / 65536 % 10);
                    mended += x.come(thing, thing == Check.NONE ? 0 : what == 0 ? x.whom(thing) : ruled(x, thing));
                }
                Check.due(name + "night(" + seed + ", " + what + ")", told, mended);
                Check.due(name + "night(" + seed + ", 2)", then, drawn);
            }
        }
    }

    private static int thingBy(WokenOnce x, int hour, long draw) {
        int added = 0;
        for (int thing = 0; thing < 4; thing++) {
            added += x.tenths(hour, thing);
            if (added > draw) {
                return thing;
            }
        }
        return Check.NONE;
    }

    /** WORTH and ROSTER, by houses in which nobody else ever slept. */
    private void theHouse() {
        BigDecimal[] bests = new BigDecimal[all() + 1];
        for (int set = 0; set <= all(); set++) {
            bests[set] = best(of(set));
        }
        WokenOnce x = now();
        for (int s = 0; s < kinds.length; s++) {
            BigDecimal worth = fraction(x.worth(s, 0), x.worth(s, 1));
            same("worth of " + s, worth, bests[all()].subtract(bests[all() & ~(1 << s)]));
        }
        for (int cost : new int[] {0, 5, 10, 20, 30, 50, 80, 999}) {
            int chosen = 0;
            for (int set = 0; set <= all(); set++) {
                int more = bests[set].compareTo(bests[chosen]);
                boolean fewer = Integer.bitCount(set) < Integer.bitCount(chosen);
                if (costOf(set) <= cost && (more > 0 || (more == 0 && fewer))) {
                    chosen = set;
                }
            }
            Check.due(name + "roster(" + cost + ")", x.roster(cost), chosen);
        }
    }

    private int costOf(int set) {
        int sum = 0;
        for (int s = 0; s < kinds.length; s++) {
            sum += (set & 1 << s) != 0 ? costs[s] : 0;
        }
        return sum;
    }

    /** SEEN and SURE, by each NIGHT that could have come, played by THE RULE; then from who is up what there was. */
    private void theMorning() {
        int[] ways = new int[all() + 1];
        int[][][] came = new int[all() + 1][6][5];
        WokenOnce x = now();
        int nights = 0;
        for (int code = 0; code < 15625; code++) {
            if (lets(code)) {
                nights++;
                x = nights % 7 == 0 ? now() : x;
                int up = played(x, code);
                ways[up]++;
                for (int hour = 0; hour < 6; hour++) {
                    came[up][hour][figure(code, hour)]++;
                }
            }
        }
        Check.due(name + "all ways", nights, Arrays.stream(ways).sum());
        for (int set = 0; set <= all(); set++) {
            seenAndSure(set, ways[set], came[set]);
        }
    }

    private void seenAndSure(int set, int ways, int[][] came) {
        WokenOnce x = now();
        boolean nurses = false;
        for (int s = 0; s < kinds.length; s++) {
            nurses |= (set & 1 << s) != 0 && kinds[s] == NURSE;
        }
        Check.due(name + "seen(" + set + ")", x.seen(set), nurses ? Check.OUTSIDE : ways);
        for (int hour = 0; hour < 6; hour++) {
            int sure = Check.NONE;
            for (int figure = 0; figure < 5; figure++) {
                sure = ways > 0 && came[hour][figure] == ways ? figure : sure;
            }
            Check.due(name + "sure(" + set + ", " + hour + ")", x.sure(set, hour), nurses ? Check.OUTSIDE : sure);
        }
    }

    private static int figure(int code, int hour) {
        return code / (int) Math.pow(5, hour) % 5;
    }

    private boolean lets(int code) {
        String[] parts = bell.split("/");
        for (int hour = 0; hour < 6; hour++) {
            int figure = figure(code, hour);
            if (figure > 0 && parts[hour].indexOf('a' + figure - 1) < 0) {
                return false;
            }
        }
        return true;
    }

    private int played(WokenOnce x, int code) {
        x.evening();
        for (int hour = 0; hour < 6; hour++) {
            int thing = figure(code, hour) - 1;
            x.come(thing, thing == Check.NONE ? 0 : ruled(x, thing));
        }
        int up = 0;
        for (int s = 0; s < kinds.length; s++) {
            up |= x.about(s, 2) << s;
        }
        return up;
    }
}
