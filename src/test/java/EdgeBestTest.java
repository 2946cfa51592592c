import java.util.Arrays;

/** The boundary cases of promises 15 to 21 and of the terms BEST, WHOM, WORST, KNOWN, BYRULE, WORTH, ROSTER. */
public final class EdgeBestTest {
    private static final int SLEEPER = 0, NURSE = 1, HEAVY = 2, EARLY = 3, OLD = 4;
    private static final String NOTHING = "-/-/-/-/-/-";
    private static final String SURELY_A_OR_B = "a9b1/a9b1/a9b1/a9b1/a9b1/a9b1";

    public static void main(String[] args) {
        lowestTerms();
        fromThisHourOn();
        whoWasNotWokenYet();
        leastAndMost();
        partsAboveAndBelow();
        wakenOrKept();
        fewestThenLeastBits();
        whomInEachHour();
        whomMayBeWoken();
        whateverComes();
        worstInEachHour();
        worstOfManyAndNobody();
        codesInEachHour();
        figuresOfFive();
        knownBeyondTheBell();
        tensFrom0To9();
        firstWhoMay();
        aloneOrNobody();
        byRuleInEachHour();
        ruleOnly();
        worthOfEach();
        worthInEachHour();
        costsNoMore();
        rosterFewestThenLeastBits();
        rosterInEachHour();
        rosterFrom0To999();
        Check.end("EdgeBestTest");
    }

    private static void pass(WokenOnce x, int hours) {
        for (int i = 0; i < hours; i++) {
            x.come(Check.NONE, 0);
        }
    }

    /** Sleepers of a kind who mend so much of thing 0 and of thing 1. */
    private static WokenOnce house(int kind, String bell, int... mends) {
        WokenOnce x = new WokenOnce();
        for (int much : mends) {
            Check.bed(x, kind, 10, much, much);
        }
        Check.ring(x, bell);
        return x;
    }

    private static void fraction(String what, long above, long below, long wantAbove, long wantBelow) {
        Check.due(what + ", above", above, wantAbove);
        Check.due(what + ", below", below, wantBelow);
    }

    private static void bestIs(WokenOnce x, String what, long above, long below) {
        fraction(what, x.best(0), x.best(1), above, below);
    }

    private static void byRuleIs(WokenOnce x, String what, long above, long below) {
        fraction(what, x.byRule(0), x.byRule(1), above, below);
    }

    private static void worthIs(WokenOnce x, int s, String what, long above, long below) {
        fraction(what, x.worth(s, 0), x.worth(s, 1), above, below);
    }

    /** "a fraction in lowest terms": nothing is 0 of 1, what is whole has 1 below. */
    private static void lowestTerms() {
        long[][] tenths = {{1, 10}, {1, 5}, {3, 10}, {2, 5}, {1, 2}, {3, 5}, {7, 10}, {4, 5}, {9, 10}};
        for (int chance = 1; chance <= 9; chance++) {
            String bell = "a" + chance + "/-/-/-/-/-";
            bestIs(house(SLEEPER, bell, 1), bell, tenths[chance - 1][0], tenths[chance - 1][1]);
            bestIs(house(SLEEPER, bell, 10), bell, chance, 1);
            bestIs(house(SLEEPER, bell, 0), bell, 0, 1);
        }
        bestIs(house(SLEEPER, NOTHING, 99), "nothing comes", 0, 1);
        bestIs(house(SLEEPER, "a9b1/-/-/-/-/-", 37), "it surely comes", 37, 1);
        bestIs(house(SLEEPER, "a5/a5/-/-/-/-", 1), "two hours", 3, 4);
        bestIs(house(SLEEPER, "a2/a2/a2/a2/a2/a2", 1), "a fifth six times", 11529, 15625);
        bestIs(house(SLEEPER, "a5/a5/a5/a5/a5/a5", 1), "a half six times", 63, 64);
        bestIs(house(SLEEPER, "a1/a1/a1/a1/a1/a1", 1), "a tenth six times", 468559, 1000000);
        bestIs(house(SLEEPER, "a1/a1/a1/a1/a1/-", 1), "a tenth five times", 40951, 100000);
    }

    /** "what is MENDED in the mean from this HOUR on" */
    private static void fromThisHourOn() {
        WokenOnce x = house(NURSE, "a9/a9/a9/a9/a9/a9", 9);
        long[][] want = {{243, 5}, {81, 2}, {162, 5}, {243, 10}, {81, 5}, {81, 10}, {0, 1}};
        for (int hour = 0; hour <= 6; hour++) {
            bestIs(x, "a nurse in hour " + hour, want[hour][0], want[hour][1]);
            x.come(0, 1);
        }
        for (int hour = 0; hour <= 6; hour++) {
            WokenOnce y = house(SLEEPER, "a1/a2/a3/a4/a5/a6", 10);
            pass(y, hour);
            long none = 1;
            long all = 1;
            for (int h = hour; h < 6; h++) {
                none *= 9 - h;
                all *= 10;
            }
            Check.due("best in hour " + hour, y.best(0) * all, y.best(1) * (all - none) * 10);
        }
    }

    /** "(by who has not been woken yet)" */
    private static void whoWasNotWokenYet() {
        WokenOnce x = house(SLEEPER, "-/a5/-/-/-/-", 30, 20, 10);
        x.image();
        for (int set = 0; set < 7; set++) {
            if (Integer.bitCount(set) <= 2) {
                x.come(3, set);
                int left = (set & 1) != 0 ? 0 : 30;
                left += (set & 2) != 0 ? 0 : 20;
                left += (set & 4) != 0 ? 0 : 10;
                bestIs(x, "woken were " + set, Math.min(50, left) / 2, 1);
                x.restore();
            }
        }
    }

    /** The least that is not nothing, and the most that there can be. */
    private static void leastAndMost() {
        WokenOnce x = house(SLEEPER, "a1/a1/a1/a1/a1/a1", 1, 1, 1, 1, 1, 1);
        x.harm(0, 1);
        worthIs(x, 5, "wanted once in a million nights", 1, 1000000);
        WokenOnce y = house(SLEEPER, SURELY_A_OR_B, 99, 99, 99, 99, 99, 99, 99);
        y.harm(0, 99);
        y.harm(1, 99);
        bestIs(y, "all of six hours", 594, 1);
        worthIs(y, 0, "six are enough", 0, 1);
        WokenOnce z = house(SLEEPER, "a1/a1/a1/a1/a1/a1", 99);
        z.harm(0, 99);
        bestIs(z, "the most above", 99 * 468559, 1000000);
    }

    /** "part 0 above, 1 below. OUTSIDE." */
    private static void partsAboveAndBelow() {
        WokenOnce x = house(SLEEPER, "a5/-/-/-/-/-", 5);
        Check.hang(x, "0+0");
        for (int part = -2; part <= 3; part++) {
            long want = part == 0 ? 5 : part == 1 ? 2 : Check.OUTSIDE;
            Check.due("best(" + part + ")", x.best(part), want);
            Check.due("byRule(" + part + ")", x.byRule(part), want);
            Check.due("worth(0, " + part + ")", x.worth(0, part), want);
            Check.due("worth(1, " + part + ")", x.worth(1, part), Check.UNKNOWN);
        }
    }

    /** WHOM: who is kept for what may come, if that is more; "of like ones fewest": nobody, if it is like. */
    private static void wakenOrKept() {
        for (int now = 9; now <= 11; now++) {
            WokenOnce x = new WokenOnce();
            Check.bed(x, SLEEPER, 0, now, 10, 10);
            Check.ring(x, "-/b9c1/-/-/-/-");
            Check.due(now + " now or ten then", x.whom(0), now > 10 ? 1 : 0);
            Check.ring(x, "-/b9/-/-/-/-");
            Check.due(now + " now or nine then", x.whom(0), now > 9 ? 1 : 0);
            Check.ring(x, "-/-/-/-/-/b9");
            Check.due(now + " now or nine in hour 5", x.whom(0), now > 9 ? 1 : 0);
        }
        WokenOnce one = house(SLEEPER, NOTHING, 1);
        Check.due("one is more than nothing", one.whom(0), 1);
        Check.due("nothing is not", house(SLEEPER, NOTHING, 0).whom(0), 0);
        one.harm(0, 0);
        Check.due("nothing to mend", one.whom(0), 0);
    }

    /** "of like ones fewest, then least bits" */
    private static void fewestThenLeastBits() {
        int[][] rows = {
            // harm, whom, what the sleepers mend
            {20, 4, 10, 10, 20}, {20, 1, 20, 20, 20}, {20, 2, 10, 20, 20}, {40, 3, 20, 20, 20}, {21, 3, 20, 20, 20},
            {20, 6, 5, 10, 10, 15}, {25, 10, 5, 10, 10, 15}, {30, 10, 5, 10, 10, 15}, {20, 5, 10, 9, 10, 10},
            {50, 64, 1, 1, 1, 1, 1, 1, 50}, {50, 96, 1, 1, 1, 1, 1, 2, 48}, {50, 65, 2, 1, 1, 1, 1, 2, 48},
            {50, 1, 50, 50, 50, 50, 50, 50, 50}, {99, 3, 50, 50, 50, 50, 50, 50, 50}, {50, 0, 0, 0, 0}};
        for (int[] row : rows) {
            int[] mends = Arrays.copyOfRange(row, 2, row.length);
            WokenOnce x = house(SLEEPER, NOTHING, mends);
            x.harm(0, row[0]);
            Check.due("whom of " + Arrays.toString(row), x.whom(0), row[1]);
        }
        WokenOnce nurses = house(NURSE, NOTHING, 9, 5, 9, 4);
        Check.due("two nurses", nurses.whom(0), 5);
        nurses.harm(0, 9);
        Check.due("one nurse is enough", nurses.whom(0), 1);
        WokenOnce spared = house(SLEEPER, "-/b9/-/-/-/-", 30, 20);
        Check.bed(spared, NURSE, 0, 9);
        spared.harm(0, 9);
        Check.due("the nurse, as both others are wanted then", spared.whom(0), 4);
        spared.harm(1, 30);
        Check.due("the nurse or who is not wanted then: least bits", spared.whom(0), 2);
    }

    /** "STATE: the NIGHT is over" */
    private static void whomInEachHour() {
        WokenOnce x = house(SLEEPER, SURELY_A_OR_B, 10);
        for (int hour = 0; hour <= 6; hour++) {
            int want = hour == 5 ? 1 : hour == 6 ? Check.STATE : 0;
            Check.due("whom(0) in hour " + hour, x.whom(0), want);
            Check.due("whom(3) in hour " + hour, x.whom(3), hour == 6 ? Check.STATE : 0);
            Check.due("whom(-1) in hour " + hour, x.whom(-1), Check.UNKNOWN);
            Check.due("whom(4) in hour " + hour, x.whom(4), Check.UNKNOWN);
            pass(x, 1);
        }
        x.evening();
        Check.due("whom in the next night", x.whom(0), 0);
    }

    /** Only who MAY be woken now is. */
    private static void whomMayBeWoken() {
        WokenOnce x = house(SLEEPER, NOTHING, 30, 20, 10, 5);
        int[] want = {3, 12, 0, 0, 0, 0};
        for (int hour = 0; hour < 6; hour++) {
            int whom = x.whom(0);
            Check.due("whom in hour " + hour, whom, want[hour]);
            x.come(0, whom);
        }
        WokenOnce early = house(EARLY, NOTHING, 10, 20);
        Check.bed(early, SLEEPER, 0, 1);
        for (int hour = 0; hour < 6; hour++) {
            Check.due("whom in hour " + hour, early.whom(0), hour < 4 ? 3 : 4);
            pass(early, 1);
        }
        WokenOnce heavy = house(HEAVY, NOTHING, 21);
        Check.bed(heavy, SLEEPER, 0, 10);
        heavy.harm(0, 10);
        for (int hour = 0; hour < 6; hour++) {
            Check.due("ten are ten", heavy.whom(0), 1);
            pass(heavy, 1);
        }
        WokenOnce old = house(OLD, NOTHING, 19);
        Check.bed(old, SLEEPER, 0, 10);
        old.harm(0, 10);
        for (int hour = 0; hour < 6; hour++) {
            Check.due("half of 19 is 9", old.whom(0), 2);
            pass(old, 1);
        }
    }

    /** WORST: "whatever comes (of what THE BELL lets come, or nothing)": by any chance, but by none not. */
    private static void whateverComes() {
        for (int chance = 1; chance <= 9; chance++) {
            WokenOnce x = house(SLEEPER, "a" + chance + "/-/-/-/-/-", 20);
            Check.due("worst of a chance of " + chance, x.worst(), 30);
        }
        WokenOnce x = house(SLEEPER, "a1/-/-/-/-/-", 20);
        x.harm(1, 99);
        x.harm(2, 99);
        Check.due("what does not come harms not", x.worst(), 30);
        Check.ring(x, "a9c1/-/-/-/-/-");
        Check.due("the worst of two", x.worst(), 99);
        x.harm(2, 29);
        Check.due("the worst of two is the other", x.worst(), 30);
        Check.ring(x, NOTHING);
        Check.due("nothing comes", x.worst(), 0);
        WokenOnce y = house(SLEEPER, "a9b1/a9b1/-/-/-/-", 40);
        y.skill(0, 1, 50);
        Check.due("he is woken now or then", y.worst(), 60);
        y.harm(0, 0);
        Check.due("he is kept: what then comes is one", y.worst(), 50);
    }

    /** "from this HOUR on" */
    private static void worstInEachHour() {
        WokenOnce x = house(NURSE, "a1/b1/a1/b1/a1/b1", 9);
        for (int hour = 0; hour <= 6; hour++) {
            Check.due("worst in hour " + hour, x.worst(), (6 - hour) * 41);
            pass(x, 1);
        }
        WokenOnce y = house(SLEEPER, "-/-/-/a1/-/a1", 50);
        int[] want = {50, 50, 50, 50, 0, 0, 0};
        for (int hour = 0; hour <= 6; hour++) {
            Check.due("one of two, hour " + hour, y.worst(), want[hour]);
            pass(y, 1);
        }
        WokenOnce woken = house(SLEEPER, "-/-/-/-/-/a1", 50);
        woken.come(3, 1);
        Check.due("he was woken", woken.worst(), 50);
    }

    private static void worstOfManyAndNobody() {
        WokenOnce nobody = new WokenOnce();
        Check.ring(nobody, "a1b2c3d4/a1b2c3d4/a1b2c3d4/a1b2c3d4/a1b2c3d4/a1b2c3d4");
        Check.due("worst of nobody", nobody.worst(), 300);
        for (int thing = 0; thing < 4; thing++) {
            nobody.harm(thing, 99);
        }
        Check.due("the most that can be left", nobody.worst(), 594);
        WokenOnce all = house(SLEEPER, SURELY_A_OR_B, 99, 99, 99, 99, 99, 99);
        all.harm(0, 99);
        Check.due("six are enough", all.worst(), 0);
        all.come(3, 1);
        all.evening();
        Check.due("in the next night, too", all.worst(), 0);
        all.come(3, 3);
        Check.due("four for five hours", all.worst(), 99);
    }

    /** "OUTSIDE: code (0 at least; below 5 to the power of how many HOURS are left)" */
    private static void codesInEachHour() {
        int[] powers = {15625, 3125, 625, 125, 25, 5, 1};
        WokenOnce x = house(NURSE, NOTHING, 1);
        for (int hour = 0; hour <= 6; hour++) {
            int power = powers[hour];
            Check.due("known(-1) in hour " + hour, x.known(-1), Check.OUTSIDE);
            Check.due("known(0) in hour " + hour, x.known(0), 0);
            Check.due("known(" + (power - 1) + ") in hour " + hour, x.known(power - 1), 0);
            Check.due("known(" + power + ") in hour " + hour, x.known(power), Check.OUTSIDE);
            Check.due("known(" + (power + 1) + ") in hour " + hour, x.known(power + 1), Check.OUTSIDE);
            Check.due("known(MAX) in hour " + hour, x.known(Integer.MAX_VALUE), Check.OUTSIDE);
            Check.due("known(MIN) in hour " + hour, x.known(Integer.MIN_VALUE), Check.OUTSIDE);
            pass(x, 1);
        }
    }

    /** "its figures of five, the lowest for this HOUR: 0 nothing, 1 to 4 THINGS 0 to 3": every code of every HOUR. */
    private static void figuresOfFive() {
        int[] powers = {15625, 3125, 625, 125, 25, 5, 1};
        for (int hour = 0; hour <= 6; hour++) {
            WokenOnce x = null;
            for (int code = 0; code < powers[hour]; code++) {
                if (code % 400 == 0) {
                    x = new WokenOnce();
                    Check.bed(x, NURSE, 0, 1, 2, 3, 4);
                    pass(x, hour);
                }
                int sum = 0;
                for (int rest = code; rest > 0; rest /= 5) {
                    sum += rest % 5;
                }
                Check.due("known(" + code + ") in hour " + hour, x.known(code), sum);
            }
        }
        WokenOnce early = house(EARLY, NOTHING, 30);
        pass(early, 3);
        Check.due("the lowest figure is this hour's", early.known(1), 30);
        Check.due("the next figure is hour 4's", early.known(5), 0);
        Check.due("the next figure is hour 5's", early.known(25), 0);
        WokenOnce heavy = house(HEAVY, NOTHING, 31);
        pass(heavy, 2);
        Check.due("a heavy one in hour 2", heavy.known(1), 15);
        Check.due("a heavy one in hour 3", heavy.known(5), 31);
        Check.due("a heavy one waits", heavy.known(6), 31);
    }

    /** KNOWN: "if all is known that comes", whatever THE BELL lets come. */
    private static void knownBeyondTheBell() {
        WokenOnce x = house(SLEEPER, "a1/-/-/-/-/-", 30, 25);
        Check.due("what the bell does not let come", x.known(2), 50);
        Check.due("each for one", x.known(1 + 5), 55);
        Check.due("both for one of them is less", x.known(1 + 10), 55);
        x.harm(1, 99);
        Check.due("still one by one", x.known(2), 55);
        x.come(3, 1);
        Check.due("he was woken", x.known(1 + 5), 25);
        Check.due("nobody is woken for nothing", x.known(0), 0);
    }

    /** "then + and a digit, TENS: ... MENDS ten times that or more" */
    private static void tensFrom0To9() {
        for (int tens = 0; tens <= 9; tens++) {
            for (int mends : new int[] {10 * tens - 1, 10 * tens, 10 * tens + 1}) {
                if (mends >= 0) {
                    WokenOnce x = house(SLEEPER, "a9b1/-/-/-/-/-", mends);
                    x.harm(0, 99);
                    x.harm(1, 99);
                    Check.hang(x, "0+" + tens);
                    String what = "+" + tens + " of one who mends " + mends;
                    byRuleIs(x, what, mends >= 10 * tens ? mends : 0, 1);
                    Check.due(what + ", seen", x.seen(1), mends >= 10 * tens ? 2 : 0);
                    Check.due(what + ", a night", x.night(0, 1), mends >= 10 * tens ? mends : 0);
                }
            }
        }
        WokenOnce nurse = house(NURSE, "a9b1/-/-/-/-/-", 99);
        Check.hang(nurse, "0+1");
        byRuleIs(nurse, "a nurse mends nine, not ten", 0, 1);
        Check.hang(nurse, "0+0");
        byRuleIs(nurse, "a nurse mends nought or more", 9, 1);
        for (int hour = 0; hour < 6; hour++) {
            String bell = "-/".repeat(hour) + "a9b1" + "/-".repeat(5 - hour);
            for (int mends : new int[] {39, 40}) {
                WokenOnce heavy = house(HEAVY, bell, mends);
                Check.hang(heavy, "0+2");
                byRuleIs(heavy, "a heavy one in hour " + hour, hour > 2 ? mends : mends == 40 ? 20 : 0, 1);
                WokenOnce old = house(OLD, bell, mends);
                Check.hang(old, "0+2");
                byRuleIs(old, "an old one in hour " + hour, mends == 40 ? 20 : 0, 1);
            }
            WokenOnce early = house(EARLY, bell, 40);
            Check.hang(early, "0+4");
            byRuleIs(early, "an early one in hour " + hour, hour < 4 ? 40 : 0, 1);
        }
    }

    /** "the first of these who MAY be woken and MENDS ten times that or more" */
    private static void firstWhoMay() {
        WokenOnce x = house(SLEEPER, "a9b1/-/-/-/-/-", 30, 40, 19);
        String[] rules = {"0+2", "1+2", "2+2", "01+2", "10+2", "20+2", "210+2", "201+2", "012+2", "012+4", "012+5"};
        int[] want = {30, 40, 0, 30, 40, 30, 40, 30, 30, 40, 0};
        for (int i = 0; i < rules.length; i++) {
            Check.hang(x, rules[i]);
            byRuleIs(x, "first of " + rules[i], want[i], 1);
        }
        WokenOnce woken = house(SLEEPER, "-/a9b1/-/-/-/-", 30, 40);
        Check.hang(woken, "01+2");
        woken.come(3, 1);
        byRuleIs(woken, "the first was woken", 40, 1);
        woken.evening();
        byRuleIs(woken, "in the next night he was not", 30, 1);
    }

    /** "is woken, alone; else nobody" */
    private static void aloneOrNobody() {
        WokenOnce x = house(SLEEPER, "a9b1/-/-/-/-/-", 20, 20);
        Check.hang(x, "01+1");
        byRuleIs(x, "one of two", 20, 1);
        Check.due("one alone was woken", x.seen(1), 2);
        Check.due("never both", x.seen(3), 0);
        Check.due("nobody, if nothing came", x.seen(0), 1);
        Check.hang(x, "01+3");
        byRuleIs(x, "nobody", 0, 1);
        Check.due("nobody whatever came", x.seen(0), 3);
        WokenOnce y = house(SLEEPER, "a9b1/-/-/-/-/-", 90);
        y.harm(0, 5);
        y.harm(1, 5);
        Check.hang(y, "0+9");
        byRuleIs(y, "he mends 90, though five are mended", 5, 1);
    }

    /** "BYRULE: what is MENDED in the mean from this HOUR on by it." */
    private static void byRuleInEachHour() {
        WokenOnce x = house(SLEEPER, "a5/a5/a5/a5/a5/a5", 1);
        Check.hang(x, "0+0");
        long[][] want = {{63, 64}, {31, 32}, {15, 16}, {7, 8}, {3, 4}, {1, 2}, {0, 1}};
        for (int hour = 0; hour <= 6; hour++) {
            byRuleIs(x, "by the rule in hour " + hour, want[hour][0], want[hour][1]);
            pass(x, 1);
        }
        x.evening();
        x.come(3, 1);
        byRuleIs(x, "he was woken", 0, 1);
        WokenOnce two = house(SLEEPER, "a2/a3/-/-/-/-", 10, 10);
        Check.hang(two, "10+1");
        byRuleIs(two, "the second, then the first", 5, 1);
        two.skill(0, 0, 20);
        byRuleIs(two, "the first is woken but behind the second", 28, 5);
        WokenOnce least = house(SLEEPER, "a1/a1/a1/a1/a1/a1", 1);
        Check.hang(least, "0+0");
        byRuleIs(least, "a tenth six times", 468559, 1000000);
        WokenOnce last = house(SLEEPER, "a1/a1/a1/a1/a1/a1", 0, 0, 0, 0, 0, 1);
        Check.hang(last, "012345+0");
        byRuleIs(last, "the sixth, once in a million nights", 1, 1000000);
    }

    /** "OUTSIDE; STATE: no RULE", in this order; a RULE that was refused is none. */
    private static void ruleOnly() {
        WokenOnce x = house(SLEEPER, "a5/-/-/-/-/-", 1);
        Check.due("no rule", x.byRule(0), Check.STATE);
        Check.due("no rule", x.byRule(1), Check.STATE);
        Check.due("OUTSIDE ahead of STATE", x.byRule(2), Check.OUTSIDE);
        Check.due("OUTSIDE ahead of STATE", x.byRule(-1), Check.OUTSIDE);
        Check.write(x, "1+0");
        Check.due("he is not there", x.rule(), Check.STATE);
        Check.due("no rule yet", x.byRule(0), Check.STATE);
        Check.hang(x, "0+0");
        byRuleIs(x, "a rule", 1, 2);
    }

    /** "BEST at the beginning of a NIGHT less BEST if he was not in the house"; "UNKNOWN; OUTSIDE." */
    private static void worthOfEach() {
        WokenOnce x = house(SLEEPER, "a9b1/-/-/-/-/-", 1, 2, 4, 8, 16, 19, 32);
        int[] want = {0, 0, 0, 0, 0, 50 - 48, 50 - 35};
        for (int s = -2; s <= 8; s++) {
            boolean there = s >= 0 && s <= 6;
            Check.due("worth(" + s + ", 0)", x.worth(s, 0), there ? want[s] : Check.UNKNOWN);
            Check.due("worth(" + s + ", 1)", x.worth(s, 1), there ? 1 : Check.UNKNOWN);
            Check.due("worth(" + s + ", 2)", x.worth(s, 2), there ? Check.OUTSIDE : Check.UNKNOWN);
            Check.due("worth(" + s + ", -1)", x.worth(s, -1), there ? Check.OUTSIDE : Check.UNKNOWN);
        }
        worthIs(house(SLEEPER, "a9b1/-/-/-/-/-", 37), 0, "the only one", 37, 1);
        worthIs(house(SLEEPER, "a9b1/-/-/-/-/-", 50, 50), 0, "one of two like ones", 0, 1);
        worthIs(house(NURSE, "a9/a9/a9/a9/a9/a9", 99), 0, "a nurse", 243, 5);
        Check.due("nobody is there", new WokenOnce().worth(0, 0), Check.UNKNOWN);
    }

    /** "(nobody was woken)": as at the beginning of a NIGHT, in whatever HOUR it is asked. */
    private static void worthInEachHour() {
        WokenOnce x = house(SLEEPER, "a5/-/-/-/-/-", 30, 10);
        for (int hour = 0; hour <= 6; hour++) {
            worthIs(x, 0, "worth in hour " + hour, 15, 1);
            worthIs(x, 1, "worth in hour " + hour, 5, 1);
            Check.due("roster in hour " + hour, x.roster(10), 1);
            x.come(3, hour == 0 ? 3 : 0);
        }
    }

    /** "the set of SLEEPERS, whose COSTS together are no more" */
    private static void costsNoMore() {
        WokenOnce x = new WokenOnce();
        for (int s = 0; s < 7; s++) {
            Check.bed(x, SLEEPER, 1 << s, 1);
        }
        x.harm(0, 1);
        x.harm(1, 1);
        Check.ring(x, "a9/a9/a9/a9/a9/a9");
        for (int cost = 0; cost <= 130; cost++) {
            Check.due("roster(" + cost + ")", x.roster(cost), dearest(cost));
        }
        WokenOnce y = new WokenOnce();
        for (int s = 0; s < 7; s++) {
            Check.bed(y, NURSE, 99, 1);
        }
        Check.ring(y, "a9/-/-/-/-/-");
        int[] want = {0, 1, 3, 3};
        for (int many = 0; many < 4; many++) {
            Check.due("for one less", y.roster(99 * (many + 1) - 1), want[many]);
        }
        Check.due("for all of them", y.roster(693), 3);
        WokenOnce free = house(SLEEPER, "a9/-/-/-/-/-", 7);
        Check.due("ten are too many", free.roster(9), 0);
        Check.due("ten are enough", free.roster(10), 1);
        Check.bed(free, SLEEPER, 0, 3);
        Check.due("who costs nothing", free.roster(0), 2);
        Check.due("he and the other", free.roster(10), 3);
    }

    /** Of sleepers who cost 1, 2, 4, .. and are alike: as many as there can be for it, six at most, of least bits. */
    private static int dearest(int cost) {
        int chosen = 0;
        for (int set = 0; set < 128; set++) {
            int many = Math.min(6, Integer.bitCount(set));
            if (set <= cost && (many > Math.min(6, Integer.bitCount(chosen)))) {
                chosen = set;
            }
        }
        return chosen;
    }

    /** "of like ones fewest, then least bits" */
    private static void rosterFewestThenLeastBits() {
        WokenOnce x = house(SLEEPER, "a9b1/-/-/-/-/-", 10, 10, 20, 20, 10, 10, 30);
        int[][] rows = {{0, 0}, {10, 1}, {20, 4}, {30, 64}, {40, 12}, {50, 68}, {60, 68}};
        for (int[] row : rows) {
            x.harm(0, row[0]);
            x.harm(1, row[0]);
            Check.due("fewest for a harm of " + row[0], x.roster(999), row[1]);
        }
        Check.ring(x, NOTHING);
        Check.due("nothing comes: nobody", x.roster(999), 0);
        WokenOnce millionth = house(SLEEPER, "a1/a1/a1/a1/a1/a1", 1, 1, 1, 1, 1, 1, 1);
        millionth.harm(0, 1);
        Check.due("a millionth is more than nothing", millionth.roster(999), 63);
        Check.due("for five", millionth.roster(59), 31);
        WokenOnce none = house(SLEEPER, "a9/a9/a9/a9/a9/a9", 0, 0, 0);
        Check.due("who mends nothing: nobody", none.roster(999), 0);
        Check.due("nobody is there", new WokenOnce().roster(999), 0);
    }

    private static void rosterInEachHour() {
        WokenOnce x = house(SLEEPER, "a5/-/-/-/-/-", 30, 10);
        for (int hour = 0; hour <= 6; hour++) {
            Check.due("roster(19) in hour " + hour, x.roster(19), 1);
            Check.due("roster(20) in hour " + hour, x.roster(20), 3);
            x.come(3, hour == 1 ? 1 : 0);
        }
    }

    /** "OUTSIDE: cost (0 to 999)" */
    private static void rosterFrom0To999() {
        WokenOnce x = house(SLEEPER, "a5/-/-/-/-/-", 30);
        int[] costs = {-1, 0, 1, 998, 999, 1000, 1001, Integer.MIN_VALUE, Integer.MAX_VALUE};
        int[] want = {Check.OUTSIDE, 0, 0, 1, 1, Check.OUTSIDE, Check.OUTSIDE, Check.OUTSIDE, Check.OUTSIDE};
        for (int i = 0; i < costs.length; i++) {
            Check.due("roster(" + costs[i] + ")", x.roster(costs[i]), want[i]);
        }
    }
}
