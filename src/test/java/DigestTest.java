/** Promises 1 and 28: a new object, and digest as the numbers that are told make it. */
public final class DigestTest {
    public static void main(String[] args) {
        newObject();
        digests();
        Check.end("DigestTest");
    }

    private static void newObject() {
        WokenOnce x = new WokenOnce();
        Check.due("nobody sleeps here", x.count(0), 0);
        Check.due("about(0, 0)", x.about(0, 0), Check.UNKNOWN);
        Check.due("no rule", x.count(7), 0);
        Check.due("byRule(0)", x.byRule(0), Check.STATE);
        Check.due("nothing comes", x.count(6), 0);
        Check.due("best(0)", x.best(0), 0);
        Check.due("best(1)", x.best(1), 1);
        Check.due("worst()", x.worst(), 0);
        Check.due("roster(999)", x.roster(999), 0);
        Check.due("whom(0)", x.whom(0), 0);
        Check.due("known(15624)", x.known(15624), 0);
        Check.due("restore()", x.restore(), Check.STATE);
        Check.due("harm(0, 50)", x.harm(0, 50), 50);
        WokenOnce y = new WokenOnce();
        y.sleeper(0, 1);
        y.harm(1, 2);
        Check.due("another object is not touched", x.count(0), 0);
        Check.due("nor is its harm", x.harm(1, 50), 50);
    }

    private static long told(WokenOnce x) {
        long h = 643;
        for (int i = 0; i < 24; i++) {
            h = 31 * h + x.tenths(i / 4, i % 4);
        }
        for (int thing = 0; thing < 4; thing++) {
            int harm = x.harm(thing, 0);
            x.harm(thing, harm);
            h = 31 * h + harm;
        }
        int[] whats = {0, 1, 2, 3, 10, 11, 12, 13};
        for (int s = 0; s < x.count(0); s++) {
            for (int what : whats) {
                h = 31 * h + x.about(s, what);
            }
        }
        h = 31 * (31 * h + x.best(0)) + x.best(1);
        h = 31 * h + x.worst();
        if (x.count(7) > 0) {
            h = 31 * (31 * h + x.byRule(0)) + x.byRule(1);
        }
        return 31 * h + x.roster(50);
    }

    private static long withPage(long begun, WokenOnce x, String page) {
        long h = begun;
        for (int i = 0; i < page.length(); i++) {
            h = 31 * h + page.charAt(i);
        }
        for (int what = 0; what < 8; what++) {
            h = 31 * h + x.count(what);
        }
        return h;
    }

    private static void digests() {
        WokenOnce x = new WokenOnce();
        Check.due("digest() of a new object", x.digest(), withPage(told(x), x, ""));
        for (int kind = 0; kind < 5; kind++) {
            Check.bed(x, kind, 7 + 6 * kind, 30 + kind, 60 - kind, 3 * kind, 99);
        }
        Check.ring(x, "a3b2/c4/-/a1d9/b5/-");
        Check.write(x, "a~ ");
        Check.due("digest() with no rule", x.digest(), withPage(told(x), x, "a~ "));
        Check.hang(x, "210+2");
        for (int hour = 0; hour < 6; hour++) {
            Check.write(x, "page" + hour);
            Check.due("digest() in hour " + hour, x.digest(), withPage(told(x), x, "page" + hour));
            x.come(hour % 4, hour < 4 ? 1 << hour : 0);
        }
        Check.due("digest() when it is over", x.digest(), withPage(told(x), x, "page5"));
    }
}
