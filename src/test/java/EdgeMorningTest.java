/** The boundary cases of promises 22 to 24 and of the terms SEEN, SURE, NIGHTS, DRAWS, each sentence by itself. */
public final class EdgeMorningTest {
    private static final int SLEEPER = 0, NURSE = 1, HEAVY = 2, EARLY = 3;
    private static final String ALL_THINGS = "a1b2c3d4/a1b2c3d4/a1b2c3d4/a1b2c3d4/a1b2c3d4/a1b2c3d4";
    private static final String NOTHING = "-/-/-/-/-/-";
    private static final long SEEDS = 1L << 31;

    public static void main(String[] args) {
        fewestAndMostWays();
        allWaysTogether();
        justThisSet();
        orNothing();
        aWholeNight();
        setsToBeSeen();
        sureOfEachFigure();
        notSureOrNoWays();
        sureHours();
        refusalsInOrder();
        drawsOfTen();
        seedsFrom0();
        seedsWrapAround();
        fromThisHourOn();
        nightsWithoutRule();
        nightsChangeNothing();
        bestIsNotTheRule();
        nobodyForNothing();
        eachOnceInADrawnNight();
        Check.end("EdgeMorningTest");
    }

    private static void pass(WokenOnce x, int hours) {
        for (int i = 0; i < hours; i++) {
            x.come(Check.NONE, 0);
        }
    }

    /** Sleepers of these kinds who mend 20 of each thing. */
    private static WokenOnce house(String bell, String rule, int... kinds) {
        WokenOnce x = new WokenOnce();
        for (int kind : kinds) {
            Check.bed(x, kind, 0, 20, 20, 20, 20);
        }
        Check.ring(x, bell);
        if (!rule.isEmpty()) {
            Check.hang(x, rule);
        }
        return x;
    }

    /** "in how many ways it could have come in a whole NIGHT": one at least in all, 5 to the 6 at most. */
    private static void fewestAndMostWays() {
        WokenOnce none = house(NOTHING, "0+0", SLEEPER);
        Check.due("nothing came", none.seen(0), 1);
        Check.due("he was not woken", none.seen(1), 0);
        WokenOnce all = house(ALL_THINGS, "0+9", SLEEPER);
        Check.due("whatever came", all.seen(0), 15625);
        Check.due("he was not woken", all.seen(1), 0);
        WokenOnce one = house(ALL_THINGS, "0+2", SLEEPER);
        Check.due("nothing in all hours", one.seen(0), 1);
        Check.due("anything in any hour", one.seen(1), 15624);
        WokenOnce six = house(ALL_THINGS, "012345+2", new int[7]);
        Check.due("a thing in each hour", six.seen(63), 4096);
        Check.due("one hour without", six.seen(31), 6 * 1024);
        Check.due("in another order than the rule's", six.seen(62), 0);
        Check.due("who is not in the rule", six.seen(64), 0);
    }

    /** Each way leaves just one set woken, so all sets together have all ways. */
    private static void allWaysTogether() {
        WokenOnce x = house("a1/b1c1/-/a1b1c1d1/d1/a1", "4231+2", SLEEPER, HEAVY, EARLY, SLEEPER, EARLY);
        x.skill(4, 0, 50);
        x.skill(1, 0, 19);
        x.skill(2, 3, 0);
        int sum = 0;
        for (int set = 0; set < 32; set++) {
            sum += x.seen(set);
        }
        Check.due("all ways", sum, 2 * 3 * 5 * 2 * 2);
    }

    /** "just a told set of SLEEPERS who are no NURSES was woken" */
    private static void justThisSet() {
        WokenOnce x = house("a1/a1/-/-/-/-", "01+2", SLEEPER, SLEEPER);
        Check.due("nobody", x.seen(0), 1);
        Check.due("the first alone", x.seen(1), 2);
        Check.due("the second alone", x.seen(2), 0);
        Check.due("both", x.seen(3), 1);
        WokenOnce nurse = house("a1/a1/-/-/-/-", "01+0", NURSE, SLEEPER);
        Check.due("a nurse was called, nobody woken", nurse.seen(0), 4);
        Check.due("the other never", nurse.seen(2), 0);
        WokenOnce helped = house("a1/a1/-/-/-/-", "10+0", NURSE, SLEEPER);
        Check.due("nobody", helped.seen(0), 1);
        Check.due("the other, then the nurse", helped.seen(2), 3);
        WokenOnce early = house("-/-/-/a1/a1/a1", "01+2", EARLY, SLEEPER);
        Check.due("the early one alone", early.seen(1), 1);
        Check.due("the other alone", early.seen(2), 3);
        Check.due("both", early.seen(3), 3);
        WokenOnce heavy = house("a1/a1/a1/a1/a1/a1", "0+2", HEAVY);
        Check.due("a heavy one mends 10 till hour 2", heavy.seen(0), 8);
        Check.due("and 20 from hour 3 on", heavy.seen(1), 56);
    }

    /** "(what THE BELL lets come, or nothing, in each HOUR)": nothing, even if TENTHS are ten together. */
    private static void orNothing() {
        WokenOnce x = house("a9b1/a9b1/a9b1/a9b1/a9b1/a9b1", "0+9", SLEEPER);
        Check.due("three ways in each hour", x.seen(0), 729);
        Check.ring(x, "a1/a2/a9/-/-/-");
        Check.due("by whatever chance", x.seen(0), 8);
    }

    /** "in a whole NIGHT": whatever HOUR it is and whoever was woken. */
    private static void aWholeNight() {
        WokenOnce x = house("a1/a1/a1/a1/a1/a1", "01+2", SLEEPER, SLEEPER);
        for (int hour = 0; hour <= 6; hour++) {
            Check.due("seen({}) in hour " + hour, x.seen(0), 1);
            Check.due("seen({0}) in hour " + hour, x.seen(1), 6);
            Check.due("seen({0, 1}) in hour " + hour, x.seen(3), 57);
            Check.due("sure({}, 0) in hour " + hour, x.sure(0, 0), 0);
            Check.due("sure({0, 1}, 0) in hour " + hour, x.sure(3, 0), Check.NONE);
            x.come(3, hour < 2 ? 1 << hour : 0);
        }
    }

    /** "OUTSIDE: set (bits of SLEEPERS, no NURSES)": with each number of SLEEPERS every set that a byte holds. */
    private static void setsToBeSeen() {
        for (int beds = 1; beds <= 7; beds++) {
            for (int nurse = -1; nurse < beds; nurse++) {
                int[] kinds = new int[beds];
                if (nurse >= 0) {
                    kinds[nurse] = NURSE;
                }
                WokenOnce x = house(NOTHING, "0+0", kinds);
                for (int set = -2; set <= 257; set += set > 130 ? 5 : 1) {
                    boolean good = set >= 0 && set < 1 << beds && (nurse < 0 || (set & 1 << nurse) == 0);
                    int ways = set == 0 ? 1 : 0;
                    Check.due("seen(" + set + ") of " + beds, x.seen(set), good ? ways : Check.OUTSIDE);
                    Check.due("sure(" + set + ", 5) of " + beds, x.sure(set, 5),
                        good ? set == 0 ? 0 : Check.NONE : Check.OUTSIDE);
                }
            }
        }
        WokenOnce x = house(NOTHING, "0+0", new int[7]);
        for (int bit = 7; bit < 32; bit++) {
            Check.due("bit " + bit, x.seen(1 << bit), Check.OUTSIDE);
            Check.due("bit " + bit, x.sure(1 << bit, 0), Check.OUTSIDE);
        }
    }

    /** "SURE of an HOUR: what came in it in all of these (as figures of five)" */
    private static void sureOfEachFigure() {
        String[] bells = {NOTHING, "-/-/-/-/-/a1", "-/-/-/-/-/b1", "-/-/-/-/-/c1", "-/-/-/-/-/d1"};
        for (int figure = 1; figure <= 4; figure++) {
            WokenOnce x = house(bells[figure], "0+2", SLEEPER);
            Check.due("figure " + figure, x.sure(1, 5), figure);
            Check.due("nothing in hour 4", x.sure(1, 4), 0);
            Check.due("nothing, if he was not woken", x.sure(0, 5), 0);
        }
        WokenOnce x = house("a1/b1/c1/d1/a1/b1", "012345+2", new int[7]);
        int[] want = {1, 2, 3, 4, 1, 2};
        for (int hour = 0; hour < 6; hour++) {
            Check.due("all six in hour " + hour, x.sure(63, hour), want[hour]);
            Check.due("none in hour " + hour, x.sure(0, hour), 0);
            Check.due("five in hour " + hour, x.sure(31, hour), Check.NONE);
        }
    }

    /** "NONE: it is not, or there are no such ways." */
    private static void notSureOrNoWays() {
        WokenOnce x = house("a1b1/-/-/-/-/-", "0+2", SLEEPER, SLEEPER);
        Check.due("a or b", x.sure(1, 0), Check.NONE);
        Check.due("nothing in hour 1", x.sure(1, 1), 0);
        for (int hour = 0; hour < 6; hour++) {
            Check.due("no such ways, hour " + hour, x.sure(2, hour), Check.NONE);
        }
        x.skill(0, 1, 19);
        Check.due("b would not have woken him", x.sure(1, 0), 1);
        Check.due("nobody: nothing, or b", x.sure(0, 0), Check.NONE);
        x.skill(0, 0, 19);
        Check.due("nobody: whatever came", x.sure(0, 0), Check.NONE);
        Check.due("no such ways", x.sure(1, 0), Check.NONE);
        WokenOnce twice = house("a1/a1/-/-/-/-", "0+2", SLEEPER);
        Check.due("in one of two hours", twice.sure(1, 0), Check.NONE);
        Check.due("in one of two hours", twice.sure(1, 1), Check.NONE);
    }

    /** "UNKNOWN: hour (0 to 5)" */
    private static void sureHours() {
        WokenOnce x = house(NOTHING, "0+0", SLEEPER);
        for (int hour = -3; hour <= 8; hour++) {
            Check.due("sure(0, " + hour + ")", x.sure(0, hour), hour >= 0 && hour <= 5 ? 0 : Check.UNKNOWN);
        }
    }

    /** seen: OUTSIDE, STATE; sure: OUTSIDE, UNKNOWN, STATE; of several the first as told. */
    private static void refusalsInOrder() {
        WokenOnce x = house(NOTHING, "", SLEEPER, NURSE);
        int[] outside = {-1, 2, 3, 4, 5};
        for (int set : outside) {
            Check.due("seen(" + set + "), no rule", x.seen(set), Check.OUTSIDE);
            Check.due("sure(" + set + ", 0), no rule", x.sure(set, 0), Check.OUTSIDE);
            Check.due("sure(" + set + ", 6), no rule", x.sure(set, 6), Check.OUTSIDE);
            Check.due("sure(" + set + ", -1), no rule", x.sure(set, -1), Check.OUTSIDE);
        }
        for (int set = 0; set < 2; set++) {
            Check.due("seen(" + set + "), no rule", x.seen(set), Check.STATE);
            Check.due("sure(" + set + ", 0), no rule", x.sure(set, 0), Check.STATE);
            Check.due("sure(" + set + ", 5), no rule", x.sure(set, 5), Check.STATE);
            Check.due("sure(" + set + ", 6), no rule", x.sure(set, 6), Check.UNKNOWN);
            Check.due("sure(" + set + ", -1), no rule", x.sure(set, -1), Check.UNKNOWN);
        }
        Check.due("nobody is there: seen(0)", new WokenOnce().seen(0), Check.STATE);
        Check.due("nobody is there: seen(1)", new WokenOnce().seen(1), Check.OUTSIDE);
    }

    private static long next(long seed) {
        return (1103515245L * seed + 12345L) % SEEDS;
    }

    /** The seed that another one comes from: 1103515245 is odd, so there is just one. */
    private static int before(long seed) {
        long inverse = 1;
        for (int i = 0; i < 31; i++) {
            inverse = inverse * (2 - 1103515245L * inverse % SEEDS) % SEEDS;
        }
        return (int) Math.floorMod((seed - 12345L) * Math.floorMod(inverse, SEEDS), SEEDS);
    }

    /** One HOUR is left, a nurse mends 1 of a, 2 of b, 3 of c, 4 of d. */
    private static WokenOnce lastHour(String part) {
        WokenOnce x = new WokenOnce();
        Check.bed(x, NURSE, 0, 1, 2, 3, 4);
        Check.ring(x, "-/-/-/-/-/" + part);
        Check.hang(x, "0+0");
        pass(x, 5);
        return x;
    }

    /** "a DRAW of 10: the first THING by which TENTHS, added up, are above it comes; nothing else" */
    private static void drawsOfTen() {
        String[] parts = {"-", "a1", "a9", "d1", "d9", "a1b2c3d4", "a9b1", "b5d5", "a1d1", "b1c1", "a4b3c2"};
        String[] mended = {"0000000000", "1000000000", "1111111110", "4000000000", "4444444440", "1223334444",
            "1111111112", "2222244444", "1400000000", "2300000000", "1111222330"};
        for (int i = 0; i < parts.length; i++) {
            WokenOnce x = lastHour(parts[i]);
            for (int draw = 0; draw <= 9; draw++) {
                int want = mended[i].charAt(draw) - '0';
                for (long high : new long[] {draw, draw + 10, draw + 32750}) {
                    int seed = before(high * 65536 + 999);
                    String what = parts[i] + " by a draw of " + draw;
                    Check.due(what + ", the seed", x.night(seed, 2), high * 65536 + 999);
                    Check.due(what + ", by the best", x.night(seed, 0), want);
                    Check.due(what + ", by the rule", x.night(seed, 1), want);
                }
            }
        }
    }

    /** "then that by 65536 (rounded down), its rest": the edges of a draw; "OUTSIDE: seed (0 at least), what". */
    private static void seedsFrom0() {
        WokenOnce x = lastHour("a1");
        Check.due("seed below 65536: draw 0", x.night(before(65535), 0), 1);
        Check.due("seed 65536: draw 1", x.night(before(65536), 0), 0);
        Check.due("seed 655359: draw 9", x.night(before(655359), 0), 0);
        Check.due("seed 655360: draw 0 again", x.night(before(655360), 0), 1);
        Check.due("seed 720895: draw 0 still", x.night(before(720895), 0), 1);
        Check.due("seed 720896: draw 1", x.night(before(720896), 0), 0);
        for (int what = -2; what <= 4; what++) {
            boolean good = what >= 0 && what <= 2;
            int want = what == 0 ? 1 : what == 1 ? 1 : 12345;
            Check.due("night(0, " + what + ")", x.night(0, what), good ? want : Check.OUTSIDE);
            for (int seed : new int[] {-1, -2, Integer.MIN_VALUE, Integer.MIN_VALUE + 1}) {
                Check.due("night(" + seed + ", " + what + ")", x.night(seed, what), Check.OUTSIDE);
            }
            Check.due("night(MAX, what)", x.night(Integer.MAX_VALUE, what) == Check.OUTSIDE ? 1 : 0, good ? 0 : 1);
        }
    }

    /** "1103515245 times it and 12345, its rest by 2 to the 31": below and above it, and its ends. */
    private static void seedsWrapAround() {
        WokenOnce x = lastHour("-");
        Check.due("seed 0", x.night(0, 2), 12345);
        Check.due("seed 1, no wrap", x.night(1, 2), 1103527590);
        Check.due("seed 2, the first wrap", x.night(2, 2), 2207042835L - SEEDS);
        Check.due("the highest seed", x.night(Integer.MAX_VALUE, 2), 1043980748);
        Check.due("the highest seed by long division", 1043980748, next(Integer.MAX_VALUE));
        for (long then : new long[] {0, 1, 12344, 12345, 12346, SEEDS / 2 - 1, SEEDS / 2, SEEDS - 2, SEEDS - 1}) {
            Check.due("its rest is " + then, x.night(before(then), 2), then);
        }
        WokenOnce whole = new WokenOnce();
        for (int seed : new int[] {0, 1, 2, 12345, 1 << 30, Integer.MAX_VALUE - 1, Integer.MAX_VALUE}) {
            long then = seed;
            for (int hour = 0; hour < 6; hour++) {
                then = next(then);
            }
            Check.due("six draws from " + seed, whole.night(seed, 2), then);
        }
    }

    /** "from this HOUR on, in each HOUR a DRAW": six at first, none when it is over. */
    private static void fromThisHourOn() {
        for (int hour = 0; hour <= 6; hour++) {
            WokenOnce x = new WokenOnce();
            Check.bed(x, NURSE, 0, 9);
            Check.ring(x, "a9/a9/a9/a9/a9/a9");
            Check.hang(x, "0+0");
            pass(x, hour);
            for (int seed = 0; seed < 60; seed++) {
                long then = seed;
                int mended = 0;
                for (int h = hour; h < 6; h++) {
                    then = next(then);
                    mended += then / 65536 % 10 < 9 ? 9 : 0;
                }
                Check.due("the seed from hour " + hour, x.night(seed, 2), then);
                Check.due("by the best from hour " + hour, x.night(seed, 0), mended);
                Check.due("by the rule from hour " + hour, x.night(seed, 1), mended);
            }
        }
    }

    /** "1 by THE RULE (NONE: no RULE)"; OUTSIDE is told ahead of it. */
    private static void nightsWithoutRule() {
        WokenOnce x = house(ALL_THINGS, "", SLEEPER);
        for (int hour = 0; hour <= 6; hour++) {
            Check.due("no rule", x.night(0, 1), Check.NONE);
            Check.due("no rule, the highest seed", x.night(Integer.MAX_VALUE, 1), Check.NONE);
            Check.due("no rule, no seed", x.night(-1, 1), Check.OUTSIDE);
            Check.holds("the best needs none", x.night(0, 0) >= 0);
            Check.holds("nor does the seed", x.night(0, 2) >= 0);
            pass(x, 1);
        }
    }

    private static void nightsChangeNothing() {
        WokenOnce x = house(ALL_THINGS, "01+2", SLEEPER, SLEEPER);
        long before = x.digest();
        for (int seed = 0; seed < 20; seed++) {
            for (int what = 0; what < 3; what++) {
                int once = x.night(seed, what);
                Check.due("the same night once more", x.night(seed, what), once);
            }
        }
        Check.due("digest", x.digest(), before);
    }

    /** Who was woken in the drawn NIGHT is not woken again in it; the BEST keeps whom THE RULE wakes. */
    private static void bestIsNotTheRule() {
        WokenOnce x = new WokenOnce();
        Check.bed(x, SLEEPER, 0, 10, 50);
        Check.ring(x, "a9/-/-/-/-/b9");
        Check.hang(x, "0+1");
        boolean apart = false;
        for (int seed = 0; seed < 100; seed++) {
            long then = next(seed);
            boolean a = then / 65536 % 10 < 9;
            for (int hour = 1; hour < 6; hour++) {
                then = next(then);
            }
            boolean b = then / 65536 % 10 < 9;
            Check.due("by the best, seed " + seed, x.night(seed, 0), b ? 50 : 0);
            Check.due("by the rule, seed " + seed, x.night(seed, 1), a ? 10 : b ? 50 : 0);
            apart |= a && b;
        }
        Check.holds("a night came that tells them apart", apart);
        x.come(3, 1);
        Check.due("he was woken: by the best", x.night(0, 0), 0);
        Check.due("he was woken: by the rule", x.night(0, 1), 0);
        WokenOnce pair = new WokenOnce();
        Check.bed(pair, SLEEPER, 0, 30);
        Check.bed(pair, SLEEPER, 0, 30);
        Check.ring(pair, "-/-/-/-/-/a9");
        Check.hang(pair, "01+1");
        pass(pair, 5);
        Check.due("the best wakes two", pair.night(0, 0), 50);
        Check.due("the rule wakes one", pair.night(0, 1), 30);
    }

    /** "nothing else": if nothing comes nobody is woken, not even by a RULE that asks for nothing. */
    private static void nobodyForNothing() {
        WokenOnce x = house("-/-/-/-/-/a9", "0+0", SLEEPER);
        for (int seed = 0; seed < 50; seed++) {
            long then = seed;
            for (int hour = 0; hour < 6; hour++) {
                then = next(then);
            }
            int want = then / 65536 % 10 < 9 ? 20 : 0;
            Check.due("by the best, seed " + seed, x.night(seed, 0), want);
            Check.due("by the rule, seed " + seed, x.night(seed, 1), want);
        }
    }

    /** Three who mend 20 and six HOURS: whoever was woken in an HOUR of a drawn NIGHT is so till its end. */
    private static void eachOnceInADrawnNight() {
        WokenOnce x = house("a9b1/a9b1/a9b1/a9b1/a9b1/a9b1", "210+0", SLEEPER, SLEEPER, SLEEPER);
        x.harm(0, 20);
        x.harm(1, 20);
        for (int seed = 0; seed < 50; seed++) {
            Check.due("by the best, seed " + seed, x.night(seed, 0), 60);
            Check.due("by the rule, seed " + seed, x.night(seed, 1), 60);
        }
        Check.ring(x, "-/-/-/a9b1/a9b1/a9b1");
        x.come(3, 2);
        Check.due("one was woken ahead, by the best", x.night(0, 0), 40);
        Check.due("one was woken ahead, by the rule", x.night(0, 1), 40);
    }
}
