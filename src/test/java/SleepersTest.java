/** Promises 8 to 12: sleeper, skill, harm, about, as. */
public final class SleepersTest {
    public static void main(String[] args) {
        sleeper();
        skill();
        harm();
        aboutKinds();
        aboutWoken();
        aboutWrong();
        as();
        Check.end("SleepersTest");
    }

    private static void sleeper() {
        WokenOnce x = new WokenOnce();
        long before = x.digest();
        Check.refused(x, "sleeper(-1, 0)", before, x.sleeper(-1, 0), Check.OUTSIDE);
        Check.refused(x, "sleeper(5, 0)", before, x.sleeper(5, 0), Check.OUTSIDE);
        Check.refused(x, "sleeper(0, -1)", before, x.sleeper(0, -1), Check.OUTSIDE);
        Check.refused(x, "sleeper(0, 100)", before, x.sleeper(0, 100), Check.OUTSIDE);
        for (int s = 0; s < 5; s++) {
            Check.due("sleeper(" + s + ")", x.sleeper(s, 99 - s), s);
        }
        Check.due("count(0)", x.count(0), 5);
        x.come(Check.NONE, 0);
        before = x.digest();
        Check.refused(x, "sleeper in hour 1", before, x.sleeper(0, 0), Check.STATE);
        Check.refused(x, "OUTSIDE ahead of STATE", before, x.sleeper(9, 0), Check.OUTSIDE);
        x.evening();
        Check.due("sleeper(0, 0)", x.sleeper(0, 0), 5);
        Check.due("sleeper(4, 99)", x.sleeper(4, 99), 6);
        before = x.digest();
        Check.refused(x, "an eighth", before, x.sleeper(0, 0), Check.FULL);
        Check.refused(x, "OUTSIDE ahead of FULL", before, x.sleeper(0, 100), Check.OUTSIDE);
        x.come(Check.NONE, 0);
        Check.due("STATE ahead of FULL", x.sleeper(0, 0), Check.STATE);
        Check.due("kind of 4", x.about(4, 0), 4);
        Check.due("cost of 4", x.about(4, 1), 95);
        Check.due("mends at first", x.about(6, 12), 0);
    }

    private static void skill() {
        WokenOnce x = new WokenOnce();
        Check.due("skill without a sleeper", x.skill(0, 0, 1), Check.UNKNOWN);
        x.sleeper(1, 0);
        Check.due("skill(0, 0, 99)", x.skill(0, 0, 99), 0);
        Check.due("skill(0, 0, 3), what was told of a nurse", x.skill(0, 0, 3), 99);
        Check.due("skill(0, 3, 7)", x.skill(0, 3, 7), 0);
        Check.due("skill(0, 3, 0)", x.skill(0, 3, 0), 7);
        Check.due("about(0, 10)", x.about(0, 10), 3);
        long before = x.digest();
        Check.refused(x, "skill(1, 0, 1)", before, x.skill(1, 0, 1), Check.UNKNOWN);
        Check.refused(x, "skill(-1, 0, 1)", before, x.skill(-1, 0, 1), Check.UNKNOWN);
        Check.refused(x, "skill(0, 4, 1)", before, x.skill(0, 4, 1), Check.UNKNOWN);
        Check.refused(x, "skill(0, -1, 1)", before, x.skill(0, -1, 1), Check.UNKNOWN);
        Check.refused(x, "skill(0, 0, 100)", before, x.skill(0, 0, 100), Check.OUTSIDE);
        Check.refused(x, "skill(0, 0, -1)", before, x.skill(0, 0, -1), Check.OUTSIDE);
        Check.refused(x, "UNKNOWN ahead of OUTSIDE", before, x.skill(0, 4, 100), Check.UNKNOWN);
        x.come(Check.NONE, 0);
        Check.due("skill in hour 1", x.skill(0, 0, 5), 3);
    }

    private static void harm() {
        WokenOnce x = new WokenOnce();
        for (int thing = 0; thing < 4; thing++) {
            Check.due("harm at first", x.harm(thing, thing * 33), 50);
            Check.due("harm then", x.harm(thing, 10), thing * 33);
        }
        long before = x.digest();
        Check.refused(x, "harm(-1, 0)", before, x.harm(-1, 0), Check.UNKNOWN);
        Check.refused(x, "harm(4, 0)", before, x.harm(4, 0), Check.UNKNOWN);
        Check.refused(x, "harm(4, 100)", before, x.harm(4, 100), Check.UNKNOWN);
        Check.refused(x, "harm(0, 100)", before, x.harm(0, 100), Check.OUTSIDE);
        Check.refused(x, "harm(0, -1)", before, x.harm(0, -1), Check.OUTSIDE);
    }

    private static void aboutKinds() {
        int[] first = {41, 9, 20, 41, 20};
        int[] third = {41, 9, 41, 41, 20};
        WokenOnce x = new WokenOnce();
        for (int kind = 0; kind < 5; kind++) {
            Check.bed(x, kind, 10 + kind, 41, 8, 0, 99);
        }
        for (int hour = 0; hour <= 6; hour++) {
            for (int kind = 0; kind < 5; kind++) {
                String who = " of kind " + kind + " in hour " + hour;
                int want = hour == 6 ? 0 : hour <= 2 ? first[kind] : third[kind];
                Check.due("about 0" + who, x.about(kind, 0), kind);
                Check.due("about 1" + who, x.about(kind, 1), 10 + kind);
                Check.due("about 10" + who, x.about(kind, 10), want);
                Check.due("about 12" + who, x.about(kind, 12), 0);
                Check.due("about 3" + who, x.about(kind, 3), kind == 3 && (hour == 4 || hour == 5) ? 0 : 1);
            }
            Check.due("a nurse mends less than nine as told", x.about(1, 11), hour == 6 ? 0 : 8);
            Check.due("about(2, 13)", x.about(2, 13), hour == 6 ? 0 : hour <= 2 ? 49 : 99);
            x.come(Check.NONE, 0);
        }
    }

    private static void aboutWoken() {
        WokenOnce x = new WokenOnce();
        Check.bed(x, 0, 0, 5);
        Check.bed(x, 1, 0, 5);
        Check.bed(x, 4, 0, 5);
        x.come(0, 3);
        Check.due("woken", x.about(0, 2), 1);
        Check.due("who was woken may not be", x.about(0, 3), 0);
        Check.due("who was woken mends all the same", x.about(0, 10), 5);
        Check.due("a nurse is never woken", x.about(1, 2), 0);
        Check.due("a nurse always may be", x.about(1, 3), 1);
        Check.due("who was not woken", x.about(2, 2), 0);
        Check.due("who was not woken may be", x.about(2, 3), 1);
        x.evening();
        Check.due("not woken in the next night", x.about(0, 2), 0);
        Check.due("may be in the next night", x.about(0, 3), 1);
    }

    private static void aboutWrong() {
        WokenOnce x = new WokenOnce();
        Check.due("about(0, 0) without a sleeper", x.about(0, 0), Check.UNKNOWN);
        x.sleeper(0, 0);
        int[] wrong = {-1, 4, 9, 14, Integer.MIN_VALUE, Integer.MAX_VALUE};
        for (int what : wrong) {
            Check.due("about(0, " + what + ")", x.about(0, what), Check.OUTSIDE);
            Check.due("about(1, " + what + ")", x.about(1, what), Check.UNKNOWN);
            Check.due("about(-1, " + what + ")", x.about(-1, what), Check.UNKNOWN);
        }
    }

    private static void as() {
        WokenOnce x = new WokenOnce();
        for (int kind = 0; kind < 5; kind++) {
            x.sleeper(kind, 0);
        }
        for (int s = 0; s < 5; s++) {
            for (int kind = 0; kind < 5; kind++) {
                boolean is = kind == 0 || kind == s || (s == 4 && kind == 2);
                Check.due("as(" + s + ", " + kind + ")", x.as(s, kind), is ? s : Check.NONE);
            }
            Check.due("as(s, 5)", x.as(s, 5), Check.OUTSIDE);
            Check.due("as(s, -1)", x.as(s, -1), Check.OUTSIDE);
        }
        Check.due("as(5, 0)", x.as(5, 0), Check.UNKNOWN);
        Check.due("as(-1, 0)", x.as(-1, 0), Check.UNKNOWN);
        Check.due("as(5, 5)", x.as(5, 5), Check.UNKNOWN);
    }
}
