/** Promises 22 to 24: seen, sure, night. */
public final class MorningTest {
    public static void main(String[] args) {
        seen();
        seenOfFullHour();
        sure();
        wrong();
        nightBySeed();
        nightLater();
        nightWrong();
        Check.end("MorningTest");
    }

    /** 0 a sleeper who mends 30 of a, 50 of b; 1 a nurse; 2 a heavy one who mends 40 of a (20 at first). */
    private static WokenOnce house(String bell, String rule) {
        WokenOnce x = new WokenOnce();
        Check.bed(x, 0, 0, 30, 50);
        Check.bed(x, 1, 0, 99, 99, 99);
        Check.bed(x, 2, 0, 40);
        Check.ring(x, bell);
        if (!rule.isEmpty()) {
            Check.hang(x, rule);
        }
        return x;
    }

    private static void seen() {
        WokenOnce x = house("a1/-/-/a1b1/-/-", "20+3");
        // hour 0: a wakes 0, as 2 mends but 20; hour 3: a wakes 2, b wakes 0 if he sleeps
        Check.due("seen({})", x.seen(0), 1);
        Check.due("seen({0})", x.seen(1), 3);
        Check.due("seen({2})", x.seen(4), 1);
        Check.due("seen({0, 2})", x.seen(5), 1);
        x.come(0, 1);
        x.come(0, 4);
        Check.due("seen is of a whole night", x.seen(1), 3);
        Check.hang(x, "120+0");
        Check.due("the nurse is always first", x.seen(0), 6);
        Check.due("seen({0}) then", x.seen(1), 0);
    }

    private static void seenOfFullHour() {
        WokenOnce x = house("a1b9/-/-/-/-/-", "0+5");
        Check.due("nothing may come even of ten tenths", x.seen(0), 2);
        Check.due("seen({0})", x.seen(1), 1);
        WokenOnce y = house("a1b1c1d1/a1b1c1d1/a1b1c1d1/a1b1c1d1/a1b1c1d1/a1b1c1d1", "1+9");
        Check.due("all ways", y.seen(0), 15625);
    }

    private static void sure() {
        WokenOnce x = house("a1/-/-/a1b1/-/-", "20+3");
        Check.due("nothing came in hour 0", x.sure(0, 0), 0);
        Check.due("nothing came in hour 3", x.sure(0, 3), 0);
        Check.due("{0}: hour 0 is not sure", x.sure(1, 0), Check.NONE);
        Check.due("{0}: hour 3 is not sure", x.sure(1, 3), Check.NONE);
        Check.due("{0}: hour 5 is", x.sure(1, 5), 0);
        Check.due("{2}: nothing in hour 0", x.sure(4, 0), 0);
        Check.due("{2}: a in hour 3", x.sure(4, 3), 1);
        Check.due("{0, 2}: a in hour 0", x.sure(5, 0), 1);
        Check.due("{0, 2}: a in hour 3", x.sure(5, 3), 1);
        x.skill(2, 0, 0);
        Check.due("no such ways", x.sure(4, 5), Check.NONE);
        Check.due("seen none", x.seen(4), 0);
        Check.ring(x, "-/-/-/-/-/b9");
        x.come(Check.NONE, 0);
        Check.due("{0}: b in hour 5", x.sure(1, 5), 2);
    }

    private static void wrong() {
        WokenOnce x = house("a1/-/-/-/-/-", "");
        Check.due("seen, no rule", x.seen(0), Check.STATE);
        Check.due("seen(nurse), no rule", x.seen(2), Check.OUTSIDE);
        Check.due("sure, no rule", x.sure(0, 0), Check.STATE);
        Check.due("sure(nurse)", x.sure(2, 9), Check.OUTSIDE);
        Check.due("sure(0, 6)", x.sure(0, 6), Check.UNKNOWN);
        Check.due("sure(0, -1)", x.sure(0, -1), Check.UNKNOWN);
        Check.hang(x, "0+0");
        int[] sets = {2, 3, 7, 8, -1, Integer.MIN_VALUE, Integer.MAX_VALUE};
        for (int set : sets) {
            Check.due("seen(" + set + ")", x.seen(set), Check.OUTSIDE);
            Check.due("sure(" + set + ", 0)", x.sure(set, 0), Check.OUTSIDE);
            Check.due("sure(" + set + ", 6)", x.sure(set, 6), Check.OUTSIDE);
        }
    }

    private static long next(long seed) {
        return (1103515245L * seed + 12345L) % 2147483648L;
    }

    private static void nightBySeed() {
        WokenOnce x = new WokenOnce();
        Check.bed(x, 1, 0, 1, 2, 3, 4);
        Check.ring(x, "a1b2c3d4/a2/b9/d5/c1d1/a4b4");
        int[][] tenths = {{1, 2, 3, 4}, {2, 0, 0, 0}, {0, 9, 0, 0}, {0, 0, 0, 5}, {0, 0, 1, 1}, {4, 4, 0, 0}};
        for (int seed = 0; seed < 120; seed++) {
            long s = seed;
            int mended = 0;
            for (int hour = 0; hour < 6; hour++) {
                s = next(s);
                long draw = s / 65536 % 10;
                int sum = 0;
                for (int thing = 0; thing < 4; thing++) {
                    sum += tenths[hour][thing];
                    if (sum > draw) {
                        mended += thing + 1;
                        break;
                    }
                }
            }
            Check.due("night(" + seed + ", 0)", x.night(seed, 0), mended);
            Check.due("night(" + seed + ", 1), no rule", x.night(seed, 1), Check.NONE);
            Check.due("night(" + seed + ", 2)", x.night(seed, 2), s);
        }
        Check.hang(x, "0+0");
        for (int seed = 0; seed < 50; seed++) {
            Check.due("the rule is the best", x.night(seed, 1), x.night(seed, 0));
        }
        Check.hang(x, "0+1");
        Check.due("the rule wakes nobody", x.night(3, 1), 0);
    }

    private static void nightLater() {
        WokenOnce x = new WokenOnce();
        Check.bed(x, 0, 0, 30);
        Check.ring(x, "-/-/-/-/-/a9");
        for (int hour = 0; hour < 5; hour++) {
            x.come(Check.NONE, 0);
        }
        Check.due("one draw in hour 5", x.night(1, 2), next(1));
        Check.due("draw below 9", x.night(1, 0), next(1) / 65536 % 10 < 9 ? 30 : 0);
        Check.due("the highest seed", x.night(Integer.MAX_VALUE, 2), next(Integer.MAX_VALUE));
        x.come(0, 1);
        Check.due("no draw when it is over", x.night(77, 2), 77);
        Check.due("nothing when it is over", x.night(77, 0), 0);
        x.evening();
        x.come(0, 1);
        Check.due("he was woken", x.night(1, 0), 0);
    }

    private static void nightWrong() {
        WokenOnce x = new WokenOnce();
        Check.due("night(-1, 0)", x.night(-1, 0), Check.OUTSIDE);
        Check.due("night(MIN, 1)", x.night(Integer.MIN_VALUE, 1), Check.OUTSIDE);
        Check.due("night(0, 3)", x.night(0, 3), Check.OUTSIDE);
        Check.due("night(0, -1)", x.night(0, -1), Check.OUTSIDE);
        Check.due("night(0, 0)", x.night(0, 0), 0);
    }
}
