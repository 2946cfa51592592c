/** Promises 15 to 21: best, whom, worst, known, byRule, worth, roster. */
public final class BestTest {
    public static void main(String[] args) {
        best();
        bestOfKinds();
        whom();
        whomOfLike();
        worst();
        known();
        byRule();
        ruleOfKinds();
        worth();
        roster();
        leastDifference();
        overBehindOtherCalls();
        wrong();
        Check.end("BestTest");
    }

    private static void fraction(String what, long above, long below, long wantAbove, long wantBelow) {
        Check.due(what + ", above", above, wantAbove);
        Check.due(what + ", below", below, wantBelow);
    }

    private static void bestIs(WokenOnce x, String what, long above, long below) {
        fraction(what, x.best(0), x.best(1), above, below);
    }

    private static void byRuleIs(WokenOnce x, String what, long above, long below) {
        fraction(what, x.byRule(0), x.byRule(1), above, below);
    }

    private static WokenOnce one(int kind, String bell, int... mends) {
        WokenOnce x = new WokenOnce();
        Check.bed(x, kind, 5, mends);
        Check.ring(x, bell);
        return x;
    }

    private static void best() {
        bestIs(new WokenOnce(), "best of nobody", 0, 1);
        WokenOnce x = one(0, "a5/-/-/-/-/a5", 30);
        bestIs(x, "best", 45, 2);
        x.come(Check.NONE, 0);
        bestIs(x, "best in hour 1", 15, 1);
        x.come(0, 1);
        bestIs(x, "best when he was woken", 0, 1);
        x.evening();
        for (int hour = 0; hour < 6; hour++) {
            x.come(Check.NONE, 0);
        }
        bestIs(x, "best when it is over", 0, 1);
        x.evening();
        x.harm(0, 10);
        bestIs(x, "best with less harm", 15, 2);
        x.skill(0, 0, 1);
        bestIs(x, "best with less skill", 3, 4);
        Check.ring(x, "a9/a9/a9/a9/a9/a9");
        bestIs(x, "best of six hours", 999999, 1000000);
        Check.bed(x, 0, 5, 1);
        x.skill(0, 0, 2);
        bestIs(x, "both at once", 3 * 999999, 1000000);
        x.harm(0, 2);
        bestIs(x, "one is left for later", 2 * 999999 + 999945, 1000000);
    }

    private static void bestOfKinds() {
        bestIs(one(1, "a9/a9/a9/a9/a9/a9", 50), "a nurse in each hour", 243, 5);
        bestIs(one(3, "-/-/-/-/a9/a9", 50), "an early one too late", 0, 1);
        bestIs(one(3, "-/-/-/a9/a9/a9", 50), "an early one in hour 3", 45, 1);
        bestIs(one(2, "a9/-/-/a9/-/-", 41), "a heavy one waits", 369, 10);
        bestIs(one(4, "a9/-/-/a9/-/-", 41), "an old one need not", 99, 5);
        bestIs(one(0, "a1b2c3d4/-/-/-/-/-", 10, 20, 30, 40), "four things", 30, 1);
    }

    private static void whom() {
        WokenOnce x = one(0, "a5/b9/-/-/-/-", 10, 50);
        Check.due("he is kept for b", x.whom(0), 0);
        Check.due("whom(1)", x.whom(1), 1);
        Check.due("whom of what he can't", x.whom(3), 0);
        x.come(Check.NONE, 0);
        Check.due("whom, what the bell does not let come in this hour", x.whom(0), 1);
        x.come(Check.NONE, 0);
        Check.due("nothing is to come: now", x.whom(0), 1);
        x.come(0, 1);
        Check.due("whom, he was woken", x.whom(0), 0);
        x.come(Check.NONE, 0);
        x.come(Check.NONE, 0);
        Check.due("whom(0) in hour 5", x.whom(0), 0);
        Check.due("whom(-1)", x.whom(-1), Check.UNKNOWN);
        x.come(Check.NONE, 0);
        Check.due("whom(0), over", x.whom(0), Check.STATE);
        Check.due("whom(4), over", x.whom(4), Check.UNKNOWN);
        WokenOnce y = one(3, "-/-/-/-/-/-", 10, 50);
        y.image();
        for (int hour = 0; hour < 6; hour++) {
            Check.due("whom, an early one", y.whom(1), hour < 4 ? 1 : 0);
            y.come(Check.NONE, 0);
        }
    }

    private static WokenOnce house(int... ofA) {
        WokenOnce x = new WokenOnce();
        for (int mends : ofA) {
            Check.bed(x, 0, 10, mends);
        }
        return x;
    }

    private static void whomOfLike() {
        WokenOnce x = house(20, 20, 40);
        x.harm(0, 40);
        Check.due("fewest", x.whom(0), 4);
        x.harm(0, 20);
        Check.due("then least bits", x.whom(0), 1);
        x.harm(0, 60);
        Check.due("of two pairs the one of least bits", x.whom(0), 5);
        x.harm(0, 0);
        Check.due("nothing to mend", x.whom(0), 0);
        WokenOnce y = house(5, 10, 10, 10);
        y.harm(0, 20);
        Check.due("least bits of pairs", y.whom(0), 6);
        WokenOnce z = house(99, 0, 0, 0, 0, 0, 99);
        z.harm(0, 99);
        Check.due("nobody who adds nothing", z.whom(0), 1);
        z.come(0, 1);
        Check.due("the seventh", z.whom(0), 64);
        WokenOnce w = house(7, 6, 5, 4, 3, 2, 1);
        Check.due("two at most", w.whom(0), 3);
        w.come(0, 3);
        Check.due("then the next two", w.whom(0), 12);
    }

    private static void worst() {
        Check.due("worst of nobody, nothing", new WokenOnce().worst(), 0);
        WokenOnce x = one(0, "a1/b1/-/-/-/-", 30, 50);
        Check.due("worst: he is kept for b", x.worst(), 50);
        x.harm(1, 10);
        Check.due("worst: he is woken for a", x.worst(), 30);
        x.come(0, 1);
        Check.due("worst from hour 1", x.worst(), 10);
        x.come(Check.NONE, 0);
        Check.due("worst from hour 2", x.worst(), 0);
        WokenOnce y = one(1, "a1b9/d1/a9/-/-/c1", 9, 4, 1, 0);
        Check.due("worst with a nurse", y.worst(), 46 + 50 + 41 + 49);
        WokenOnce z = new WokenOnce();
        Check.ring(z, "a1/a1/a1/a1/a1/a1");
        z.harm(0, 99);
        Check.due("worst of nobody", z.worst(), 594);
        for (int hour = 0; hour < 6; hour++) {
            z.come(Check.NONE, 0);
        }
        Check.due("worst when it is over", z.worst(), 0);
        WokenOnce w = one(3, "-/-/-/a1/a1/-", 50);
        Check.due("an early one", w.worst(), 50);
    }

    private static void known() {
        WokenOnce x = one(0, "-/-/-/-/-/-", 30, 50, 0, 12);
        Check.due("known(nothing)", x.known(0), 0);
        Check.due("known(a)", x.known(1), 30);
        Check.due("known(a, b)", x.known(11), 50);
        Check.due("known(b, a)", x.known(7), 50);
        Check.due("known(d last)", x.known(4 * 3125), 12);
        Check.due("known(all d)", x.known(15624), 12);
        Check.due("known(15625)", x.known(15625), Check.OUTSIDE);
        Check.due("known(-1)", x.known(-1), Check.OUTSIDE);
        Check.due("known(MAX)", x.known(Integer.MAX_VALUE), Check.OUTSIDE);
        x.come(Check.NONE, 0);
        Check.due("known(3124) in hour 1", x.known(3124), 12);
        Check.due("known(3125) in hour 1", x.known(3125), Check.OUTSIDE);
        x.come(0, 1);
        Check.due("known, he was woken", x.known(1), 0);
        x.evening();
        Check.bed(x, 2, 0, 41);
        Check.due("known(a, -, -, a)", x.known(1 + 125), 71);
        Check.due("known(a)", x.known(1), 50);
        for (int hour = 0; hour < 5; hour++) {
            x.come(Check.NONE, 0);
        }
        Check.due("known(4) in hour 5", x.known(4), 12);
        Check.due("known(5) in hour 5", x.known(5), Check.OUTSIDE);
        x.come(Check.NONE, 0);
        Check.due("known(0) when it is over", x.known(0), 0);
        Check.due("known(1) when it is over", x.known(1), Check.OUTSIDE);
    }

    private static void byRule() {
        WokenOnce x = one(0, "a5/b5/-/-/-/-", 30, 50);
        Check.due("byRule(0), no rule", x.byRule(0), Check.STATE);
        Check.due("byRule(2), no rule", x.byRule(2), Check.OUTSIDE);
        Check.hang(x, "0+3");
        byRuleIs(x, "0+3: thirty are enough", 55, 2);
        Check.hang(x, "0+4");
        byRuleIs(x, "0+4: thirty are too few", 25, 1);
        x.harm(1, 20);
        byRuleIs(x, "the harm at most, but he mends fifty", 10, 1);
        Check.bed(x, 0, 0, 40, 40);
        Check.hang(x, "01+3");
        byRuleIs(x, "0 first, then 1", 25, 1);
        Check.hang(x, "10+3");
        byRuleIs(x, "1 first, then 0", 30, 1);
        x.come(0, 2);
        byRuleIs(x, "from hour 1 on", 10, 1);
        x.come(1, 1);
        byRuleIs(x, "from hour 2 on", 0, 1);
        Check.hang(x, "1+0");
        x.evening();
        x.skill(1, 0, 0);
        byRuleIs(x, "+0: he is woken for nothing", 5, 1);
        for (int hour = 0; hour < 6; hour++) {
            x.come(Check.NONE, 0);
        }
        byRuleIs(x, "over", 0, 1);
    }

    private static void ruleOfKinds() {
        WokenOnce nurse = one(1, "a9/a9/-/-/-/-", 50);
        Check.hang(nurse, "0+1");
        byRuleIs(nurse, "a nurse mends nine", 0, 1);
        Check.hang(nurse, "0+0");
        byRuleIs(nurse, "a nurse always may", 81, 5);
        WokenOnce early = one(3, "-/-/-/a5/a5/a5", 50);
        Check.hang(early, "0+5");
        byRuleIs(early, "an early one", 25, 1);
        WokenOnce heavy = one(2, "-/-/a5/a5/-/-", 41);
        Check.hang(heavy, "0+3");
        byRuleIs(heavy, "a heavy one in hour 3", 41, 2);
        Check.hang(heavy, "0+2");
        byRuleIs(heavy, "a heavy one in hour 2", 10 * 4 + 41, 4);
    }

    private static void worth() {
        WokenOnce x = house(30, 20, 0);
        Check.ring(x, "a5/-/-/-/-/-");
        fraction("worth(0)", x.worth(0, 0), x.worth(0, 1), 15, 1);
        fraction("worth(1)", x.worth(1, 0), x.worth(1, 1), 10, 1);
        fraction("worth(2)", x.worth(2, 0), x.worth(2, 1), 0, 1);
        x.harm(0, 30);
        fraction("worth(0) with less harm", x.worth(0, 0), x.worth(0, 1), 5, 1);
        fraction("worth(1) with less harm", x.worth(1, 0), x.worth(1, 1), 0, 1);
        x.come(0, 3);
        x.come(Check.NONE, 0);
        fraction("worth(0) in hour 2", x.worth(0, 0), x.worth(0, 1), 5, 1);
        Check.ring(x, "a1/-/-/-/-/-");
        x.skill(0, 0, 21);
        fraction("worth(0), tenths", x.worth(0, 0), x.worth(0, 1), 1, 1);
        x.skill(1, 0, 0);
        fraction("worth(0), tenths", x.worth(0, 0), x.worth(0, 1), 21, 10);
    }

    private static void roster() {
        WokenOnce x = new WokenOnce();
        Check.due("roster of nobody", x.roster(999), 0);
        Check.bed(x, 0, 10, 20);
        Check.bed(x, 0, 11, 20);
        Check.bed(x, 0, 30, 40);
        Check.bed(x, 1, 0, 5);
        Check.due("nothing comes: nobody", x.roster(999), 0);
        Check.ring(x, "a5/-/-/-/-/-");
        x.harm(0, 40);
        Check.due("only the nurse is free", x.roster(0), 8);
        Check.due("roster(9)", x.roster(9), 8);
        Check.due("roster(10)", x.roster(10), 9);
        Check.due("roster(20)", x.roster(20), 9);
        Check.due("roster(21)", x.roster(21), 3);
        Check.due("roster(30): fewest", x.roster(30), 4);
        Check.due("roster(999)", x.roster(999), 4);
        x.come(0, 4);
        Check.due("roster is of the beginning of a night", x.roster(999), 4);
        x.harm(0, 20);
        Check.due("least bits", x.roster(999), 1);
        Check.due("roster(-1)", x.roster(-1), Check.OUTSIDE);
        Check.due("roster(1000)", x.roster(1000), Check.OUTSIDE);
    }

    private static void leastDifference() {
        WokenOnce x = house(1, 1, 1, 1, 1, 1);
        x.harm(0, 1);
        Check.ring(x, "a1/a1/a1/a1/a1/a1");
        fraction("the sixth is wanted once in a million nights", x.worth(5, 0), x.worth(5, 1), 1, 1000000);
        Check.due("roster(60)", x.roster(60), 63);
        Check.due("roster(59)", x.roster(59), 31);
        Check.bed(x, 0, 0, 1);
        fraction("of seven none is wanted", x.worth(5, 0), x.worth(5, 1), 0, 1);
        Check.due("roster(60): least bits", x.roster(60), 63);
        Check.due("roster(59): the free one", x.roster(59), 95);
        bestIs(x, "best of seven", 3, 5);
    }

    /** What one call works out must not be taken for another's. */
    private static void overBehindOtherCalls() {
        WokenOnce x = one(0, "a5/a5/a5/a5/a5/a5", 30);
        Check.hang(x, "0+1");
        for (int hour = 0; hour < 6; hour++) {
            x.come(Check.NONE, 0);
        }
        Check.due("seen({0})", x.seen(1), 63);
        Check.due("known(0) when it is over", x.known(0), 0);
        Check.due("seen({})", x.seen(0), 1);
        Check.due("worst() when it is over", x.worst(), 0);
        bestIs(x, "best when it is over", 0, 1);
        byRuleIs(x, "byRule when it is over", 0, 1);
        x.evening();
        Check.due("worst()", x.worst(), 270);
        Check.due("known(a)", x.known(1), 30);
        Check.due("worst() again", x.worst(), 270);
        byRuleIs(x, "byRule", 945, 32);
    }

    private static void wrong() {
        WokenOnce x = house(1, 2);
        int[] parts = {-1, 2, Integer.MIN_VALUE, Integer.MAX_VALUE};
        for (int part : parts) {
            Check.due("best(" + part + ")", x.best(part), Check.OUTSIDE);
            Check.due("byRule(" + part + ")", x.byRule(part), Check.OUTSIDE);
            Check.due("worth(0, " + part + ")", x.worth(0, part), Check.OUTSIDE);
            Check.due("worth(2, " + part + ")", x.worth(2, part), Check.UNKNOWN);
            Check.due("worth(-1, " + part + ")", x.worth(-1, part), Check.UNKNOWN);
            Check.due("whom(part)", x.whom(part == 2 ? 4 : part), Check.UNKNOWN);
        }
    }
}
