/** Promises 2 to 7: letters, blank, fault, bell, rule, tenths. */
public final class TextsTest {
    public static void main(String[] args) {
        letters();
        lettersWrong();
        lettersFull();
        blank();
        faultOfBell();
        faultOfRule();
        bell();
        rule();
        tenths();
        Check.end("TextsTest");
    }

    private static void letters() {
        WokenOnce x = new WokenOnce();
        Check.due("letters(abc)", x.letters(Check.packed("abc")), 3);
        Check.due("letters(0)", x.letters(0L), 3);
        Check.due("letters(eight)", x.letters(Check.packed("12345678")), 11);
        Check.due("count(5)", x.count(5), 11);
        Check.due("letters(~), code 126", x.letters(126L), 12);
        Check.due("letters(code 1)", x.letters(1L), 13);
        long h = new WokenOnce().digest();
        WokenOnce y = new WokenOnce();
        y.letters(Check.packed("ab"));
        WokenOnce z = new WokenOnce();
        z.letters(Check.packed("ba"));
        Check.holds("the digest tells the letters in their order", y.digest() != z.digest() && y.digest() != h);
    }

    private static void lettersWrong() {
        WokenOnce x = new WokenOnce();
        x.letters(Check.packed("a"));
        long before = x.digest();
        Check.refused(x, "letters(127)", before, x.letters(127L), Check.OUTSIDE);
        Check.refused(x, "letters(255)", before, x.letters(255L), Check.OUTSIDE);
        Check.refused(x, "letters(-1)", before, x.letters(-1L), Check.OUTSIDE);
        Check.refused(x, "letters(0, a)", before, x.letters(0x6100L), Check.OUTSIDE);
        Check.refused(x, "letters(a, 0, a)", before, x.letters(0x610061L), Check.OUTSIDE);
        Check.refused(x, "letters(highest byte alone)", before, x.letters(1L << 56), Check.OUTSIDE);
        Check.refused(x, "letters(seven, 127)", before,
            x.letters(Check.packed("1234567") | 127L << 56), Check.OUTSIDE);
        Check.refused(x, "letters(MIN)", before, x.letters(Long.MIN_VALUE), Check.OUTSIDE);
        Check.due("letters(MAX): a byte is 127", x.letters(Long.MAX_VALUE), Check.OUTSIDE);
    }

    private static void lettersFull() {
        WokenOnce x = new WokenOnce();
        for (int i = 0; i < 6; i++) {
            x.letters(Check.packed("-/-/-/-/"));
        }
        long before = x.digest();
        Check.refused(x, "letters to 56", before, x.letters(Check.packed("12345678")), Check.FULL);
        Check.due("letters to 55", x.letters(Check.packed("1234567")), 55);
        Check.due("letters(0) at 55", x.letters(0L), 55);
        before = x.digest();
        Check.refused(x, "the 56th", before, x.letters(Check.packed("1")), Check.FULL);
        Check.refused(x, "OUTSIDE ahead of FULL", before, x.letters(200L), Check.OUTSIDE);
        Check.due("blank()", x.blank(), 55);
        Check.due("letters behind blank", x.letters(Check.packed("1")), 1);
    }

    private static void blank() {
        WokenOnce x = new WokenOnce();
        Check.due("blank() of nothing", x.blank(), 0);
        x.letters(Check.packed("abcd"));
        Check.due("blank()", x.blank(), 4);
        Check.due("blank() again", x.blank(), 0);
        Check.due("count(5)", x.count(5), 0);
    }

    private static void fault(WokenOnce x, int sort, String text, int want) {
        Check.write(x, text);
        Check.due("fault(" + sort + ") of '" + text + "'", x.fault(sort), want);
        Check.due("letters behind fault", x.count(5), text.length());
    }

    private static void faultOfBell() {
        WokenOnce x = new WokenOnce();
        String[] good = {"", "-", "-/", "a", "a1", "a9b1", "a1b", "a5b5c", "a9b1c", "d9", "a1b2c3d4", "a1b2c3d4/b9/",
            "-/-/-/-/-/-", "a1/b1/c1/d1/a1/b1", "b2d8/-/-/-/-/a9b1",
            "a1b1c1d1/a1b1c1d1/a1b1c1d1/a1b1c1d1/a1b1c1d1/a1b1c1d1"};
        for (String text : good) {
            fault(x, 0, text, text.length());
        }
        String[] bad = {"e", "A", "1", "/", "+", " ", "`", "--", "-a", "-1", "aa", "a0", "a/", "a-", "a:", "a1a",
            "b1a", "b1b", "a1-", "a12", "a1 ", "a9b2", "a5b5c1", "a9b1c1", "a9b1c9", "d9d", "d1e", "-//", "-/1",
            "a1/a1/0", "-/-/-/-/-/-/", "-/-/-/-/-/--", "-/-/-/-/-/a1/", "-/-/-/-/-/a1a", "a1b2c3d5"};
        for (String text : bad) {
            fault(x, 0, text, text.length() - 1);
        }
        fault(x, 0, "a1zzz/-/-", 2);
        fault(x, 0, "0+1", 0);
        Check.due("fault(2)", x.fault(2), Check.OUTSIDE);
        Check.due("fault(-1)", x.fault(-1), Check.OUTSIDE);
        Check.due("fault(MIN)", x.fault(Integer.MIN_VALUE), Check.OUTSIDE);
    }

    private static void faultOfRule() {
        WokenOnce x = new WokenOnce();
        fault(x, 1, "0", 0);
        fault(x, 1, "", 0);
        for (int s = 0; s < 3; s++) {
            x.sleeper(0, 0);
        }
        String[] good = {"", "0", "01", "210", "0+", "0+0", "0+9", "2+5", "201+7"};
        for (String text : good) {
            fault(x, 1, text, text.length());
        }
        String[] bad = {"+", "3", "9", "a", "/", ":", "00", "010", "0123", "0-", "0++", "0+a", "0+/", "0+:", "0+00",
            "0+5+", "0+5 ", "012+33"};
        for (String text : bad) {
            fault(x, 1, text, text.length() - 1);
        }
        fault(x, 1, "1a+0", 1);
        for (int s = 3; s < 7; s++) {
            x.sleeper(1, 0);
        }
        fault(x, 1, "6543210+9", 9);
        fault(x, 1, "65432107", 7);
        fault(x, 1, "7", 0);
    }

    private static void bell() {
        WokenOnce x = new WokenOnce();
        Check.due("count(6) at first", x.count(6), 0);
        Check.due("bell() of nothing", x.bell(), Check.STATE);
        Check.write(x, "a1b2c3d4/b9/-/c1/d2/a5b5");
        Check.due("bell()", x.bell(), 9);
        Check.due("count(6)", x.count(6), 9);
        Check.due("letters behind bell()", x.count(5), 0);
        String[] none = {"-", "a1", "-/-/-/-/-", "-/-/-/-/-/", "-/-/-/-/-/a", "-/-/-/-/-/-/", "-/-/-/-/-/-x",
            "a9b2/-/-/-/-/-", "a5b5c/-/-/-/-/-", "-/-/-/-/-/d", "0+1"};
        for (String text : none) {
            Check.write(x, text);
            long before = x.digest();
            Check.refused(x, "bell() of " + text, before, x.bell(), Check.STATE);
        }
        Check.due("the bell is still there", x.tenths(0, 3), 4);
        Check.ring(x, "-/-/-/-/-/d3");
        Check.due("count(6) of the other bell", x.count(6), 1);
        Check.due("the bell ahead is gone", x.tenths(0, 3), 0);
        Check.due("tenths(5, 3)", x.tenths(5, 3), 3);
        Check.write(x, "-/-/-/-/-/-");
        Check.due("bell() without a pair", x.bell(), 0);
        Check.due("tenths(5, 3)", x.tenths(5, 3), 0);
    }

    private static void rule() {
        WokenOnce x = new WokenOnce();
        Check.due("count(7) at first", x.count(7), 0);
        Check.write(x, "0+1");
        Check.due("rule() without the sleeper", x.rule(), Check.STATE);
        Check.bed(x, 0, 0, 40);
        Check.due("rule()", x.rule(), 1);
        Check.due("letters behind rule()", x.count(5), 0);
        Check.due("count(7)", x.count(7), 1);
        Check.bed(x, 0, 0, 60);
        Check.write(x, "10+0");
        Check.due("rule() of two", x.rule(), 2);
        Check.due("count(7)", x.count(7), 2);
        String[] none = {"", "1", "10", "10+", "10+00", "2+0", "11+0", "+0", "-/-/-/-/-/-"};
        for (String text : none) {
            Check.write(x, text);
            long before = x.digest();
            Check.refused(x, "rule() of " + text, before, x.rule(), Check.STATE);
        }
        Check.due("count(7)", x.count(7), 2);
        Check.ring(x, "a9/-/-/-/-/-");
        Check.due("byRule(0) of 10+0", x.byRule(0), 45);
        Check.hang(x, "0+0");
        Check.due("byRule(0) of the other rule", x.byRule(0), 36);
        Check.due("count(7)", x.count(7), 1);
    }

    private static void tenths() {
        WokenOnce x = new WokenOnce();
        for (int hour = 0; hour < 6; hour++) {
            for (int thing = 0; thing < 4; thing++) {
                Check.due("tenths at first", x.tenths(hour, thing), 0);
            }
        }
        Check.ring(x, "a1b2c3d4/d9/-/a5c5/b7/a9d1");
        int[][] want = {{1, 2, 3, 4}, {0, 0, 0, 9}, {0, 0, 0, 0}, {5, 0, 5, 0}, {0, 7, 0, 0}, {9, 0, 0, 1}};
        for (int hour = 0; hour < 6; hour++) {
            for (int thing = 0; thing < 4; thing++) {
                Check.due("tenths(" + hour + ", " + thing + ")", x.tenths(hour, thing), want[hour][thing]);
            }
        }
        Check.due("tenths(-1, 0)", x.tenths(-1, 0), Check.UNKNOWN);
        Check.due("tenths(6, 0)", x.tenths(6, 0), Check.UNKNOWN);
        Check.due("tenths(0, -1)", x.tenths(0, -1), Check.UNKNOWN);
        Check.due("tenths(0, 4)", x.tenths(0, 4), Check.UNKNOWN);
        Check.due("tenths(MAX, MIN)", x.tenths(Integer.MAX_VALUE, Integer.MIN_VALUE), Check.UNKNOWN);
    }
}
