import java.math.BigInteger;
import java.util.ArrayList;
import java.util.List;

/** The boundary cases of promises 1 and 28: a new object, a digest that wraps around, and the 512th call. */
public final class EdgeDigestTest {
    private final List<Long> numbers = new ArrayList<>();
    private final WokenOnce x;
    private final String page;

    private EdgeDigestTest(WokenOnce x, String page) {
        this.x = x;
        this.page = page;
    }

    public static void main(String[] args) {
        newObject();
        asLongsWrapping();
        withoutAndWithRule();
        rosterOf50();
        lettersOfThePage();
        inEachHour();
        everyScene();
        objectsOfTheirOwn();
        till512thCall();
        Check.end("EdgeDigestTest");
    }

    /** "h is 643, then for each of these numbers, in order, 31 times h, and it (as longs, wrapping)" */
    private BigInteger unwrapped() {
        BigInteger h = BigInteger.valueOf(643);
        for (long number : numbers) {
            h = h.multiply(BigInteger.valueOf(31)).add(BigInteger.valueOf(number));
        }
        return h;
    }

    private void gather() {
        numbers.clear();
        for (int hour = 0; hour < 6; hour++) {
            for (int thing = 0; thing < 4; thing++) {
                numbers.add((long) x.tenths(hour, thing));
            }
        }
        for (int thing = 0; thing < 4; thing++) {
            int harm = x.harm(thing, 0);
            x.harm(thing, harm);
            numbers.add((long) harm);
        }
        for (int s = 0; s < x.count(0); s++) {
            for (int what = 0; what <= 13; what += what == 3 ? 7 : 1) {
                numbers.add((long) x.about(s, what));
            }
        }
        numbers.add(x.best(0));
        numbers.add(x.best(1));
        numbers.add((long) x.worst());
        if (x.count(7) > 0) {
            numbers.add(x.byRule(0));
            numbers.add(x.byRule(1));
        }
        numbers.add((long) x.roster(50));
        for (char letter : page.toCharArray()) {
            numbers.add((long) letter);
        }
        for (int what = 0; what < 8; what++) {
            numbers.add((long) x.count(what));
        }
    }

    private static int check(String what, WokenOnce x, String page) {
        EdgeDigestTest due = new EdgeDigestTest(x, page);
        due.gather();
        Check.due("digest " + what, x.digest(), due.unwrapped().longValue());
        return due.numbers.size();
    }

    /** "Nobody sleeps here; nothing comes; no RULE." */
    private static void newObject() {
        WokenOnce x = new WokenOnce();
        EdgeDigestTest due = new EdgeDigestTest(x, "");
        for (int i = 0; i < 24; i++) {
            due.numbers.add(0L);
        }
        for (int thing = 0; thing < 4; thing++) {
            due.numbers.add(50L);
        }
        due.numbers.addAll(List.of(0L, 1L, 0L, 0L));
        for (int what = 0; what < 8; what++) {
            due.numbers.add(0L);
        }
        Check.due("digest of a new object", x.digest(), due.unwrapped().longValue());
        Check.due("digest once more", x.digest(), due.unwrapped().longValue());
        Check.due("nobody: seven are not there", x.about(0, 0), Check.UNKNOWN);
        for (int thing = 0; thing < 4; thing++) {
            Check.due("whom", x.whom(thing), 0);
        }
        Check.due("no page", x.blank(), 0);
        Check.due("no page that is a bell", x.bell(), Check.STATE);
        Check.due("no page that is a rule", x.rule(), Check.STATE);
        Check.due("no image", x.restore(), Check.STATE);
        Check.due("hour 0", x.image(), 0);
        Check.due("evening", x.evening(), 0);
        Check.due("digest of a new object still", x.digest(), due.unwrapped().longValue());
    }

    /** Forty numbers are far more than a long holds: every digest wraps, and some are below zero. */
    private static void asLongsWrapping() {
        boolean below = false;
        boolean above = false;
        for (int harm = 0; harm <= 99; harm++) {
            WokenOnce x = new WokenOnce();
            x.harm(0, harm);
            EdgeDigestTest due = new EdgeDigestTest(x, "");
            due.gather();
            Check.holds("it wraps", due.unwrapped().bitLength() > 64);
            Check.due("digest with a harm of " + harm, x.digest(), due.unwrapped().longValue());
            below |= x.digest() < 0;
            above |= x.digest() > 0;
        }
        Check.holds("below and above zero", below && above);
    }

    /** "with a RULE what byRule() tells for 0 and 1": two numbers more. */
    private static void withoutAndWithRule() {
        WokenOnce x = new WokenOnce();
        Check.bed(x, 0, 0, 30);
        Check.ring(x, "a5/-/-/-/-/-");
        int without = check("with no rule", x, "");
        Check.hang(x, "0+9");
        Check.due("numbers with a rule", check("with a rule that mends nothing", x, ""), without + 2);
        Check.hang(x, "0+3");
        check("with a rule", x, "");
    }

    /** "what roster() tells of 50" */
    private static void rosterOf50() {
        for (int cost = 49; cost <= 51; cost++) {
            WokenOnce x = new WokenOnce();
            Check.bed(x, 0, cost, 30);
            Check.ring(x, "a5/-/-/-/-/-");
            Check.due("roster(50) of one who costs " + cost, x.roster(50), cost <= 50 ? 1 : 0);
            check("of one who costs " + cost, x, "");
        }
    }

    /** "letters of THE PAGE": none, one, 55; the lowest and the highest code. */
    private static void lettersOfThePage() {
        for (String page : new String[] {"", "a", "\u0001", "~", "ab", "ba", "abcdefghi", "~".repeat(55)}) {
            WokenOnce x = new WokenOnce();
            Check.write(x, page);
            Check.due("numbers", check("with " + page.length() + " letters", x, page), 40 + page.length());
            x.blank();
            check("with a page that is empty again", x, "");
        }
    }

    /** "of each SLEEPER what about() tells": from nobody to seven of all KINDS, in every HOUR. */
    private static void inEachHour() {
        for (int beds = 0; beds <= 7; beds++) {
            WokenOnce x = new WokenOnce();
            for (int s = 0; s < beds; s++) {
                Check.bed(x, (s + 1) % 5, 5 * s, 99 - s, 51 + s, s, 9 * s);
            }
            Check.ring(x, "a1b2c3d4/d9/-/c5/a1/b9");
            for (int hour = 0; hour <= 6; hour++) {
                Check.due("numbers", check(beds + " in hour " + hour, x, ""), 40 + 8 * beds);
                x.come(hour % 4, hour < beds && (hour + 1) % 5 != 3 ? 1 << hour : 0);
            }
        }
    }

    private static void everyScene() {
        String[] pages = {"", "a1/-", "0+1", "-/".repeat(27) + "-", "-/".repeat(27) + "-", "-/".repeat(27) + "-",
            "-/".repeat(27) + "-", "-/".repeat(27) + "-", "-"};
        for (Scene scene : Scene.values()) {
            check("of " + scene, scene.make(), pages[scene.ordinal()]);
        }
    }

    /** Objects have nothing in common. */
    private static void objectsOfTheirOwn() {
        WokenOnce x = new WokenOnce();
        long before = x.digest();
        for (Scene scene : Scene.values()) {
            WokenOnce other = scene.make();
            Check.holds("another object tells", other.digest() != 0);
            Check.due("this one tells as ever", x.digest(), before);
        }
        Check.holds("and is as new", Told.by(x).equals(Told.by(new WokenOnce())));
    }

    /** "An object is used for at most 512 calls": the last of them is answered as the first. */
    private static void till512thCall() {
        for (Scene scene : Scene.values()) {
            WokenOnce x = scene.make();
            long due = x.digest();
            int best = x.night(5, 0);
            for (int call = 0; call < 420; call++) {
                boolean other = call % 2 == 0;
                Check.due("call " + call + " in " + scene, other ? x.night(5, 0) : x.digest(), other ? best : due);
            }
        }
    }
}
