/** The boundary cases of promises 2 to 7 and of the terms THE BELL and THE RULE, each sentence by itself. */
public final class EdgeTextsTest {
    private static final String FULL_PART = "a1b2c3d4";
    private static final String LONGEST_BELL = "a1b2c3d4/a1b2c3d4/a1b2c3d4/a1b2c3d4/a1b2c3d4/a1b2c3d4";
    private static final String SHORTEST_BELL = "-/-/-/-/-/-";

    public static void main(String[] args) {
        upToEightLetters();
        lowestByteFirst();
        byteAbove126();
        byteBehindZero();
        above55();
        blankOfEmptyAndFull();
        bellGoesOn();
        tenthsTogetherTen();
        ruleGoesOn();
        faultOfEmptyAndFull();
        wholeBells();
        unfinishedBells();
        anotherBell();
        wholeRules();
        unfinishedRules();
        anotherRule();
        textsAtAnyHour();
        tenthsOfHoursAndThings();
        Check.end("EdgeTextsTest");
    }

    private static String quoted(String text) {
        return "'" + text + "'";
    }

    private static WokenOnce house(int beds) {
        WokenOnce x = new WokenOnce();
        for (int s = 0; s < beds; s++) {
            Check.bed(x, 0, 0, 99);
        }
        return x;
    }

    /** A page of so many letters. */
    private static WokenOnce page(int letters) {
        WokenOnce x = new WokenOnce();
        Check.write(x, "x".repeat(letters));
        return x;
    }

    /** "Letters come behind THE PAGE, up to eight, ... until a byte that is 0: how many THE PAGE has." */
    private static void upToEightLetters() {
        for (int had = 0; had <= 20; had += 5) {
            for (int more = 0; more <= 8; more++) {
                WokenOnce x = page(had);
                String what = more + " letters behind " + had;
                Check.due(what, x.letters(Check.packed("abcdefgh".substring(0, more))), had + more);
                Check.due(what + ", count(5)", x.count(5), had + more);
            }
        }
    }

    /** "told by their codes in the bytes of w, the lowest byte first" */
    private static void lowestByteFirst() {
        WokenOnce one = new WokenOnce();
        one.letters(0x6867666564636261L);
        WokenOnce many = new WokenOnce();
        for (char letter = 'a'; letter <= 'h'; letter++) {
            many.letters(letter);
        }
        Check.due("abcdefgh at once and one by one", one.digest(), many.digest());
        WokenOnce x = new WokenOnce();
        x.letters(0x39613861L);
        Check.due("a8a9: the second a is the fault", x.fault(0), 2);
    }

    /** "OUTSIDE: a byte above 126", in each of the eight places. */
    private static void byteAbove126() {
        for (int place = 0; place < 8; place++) {
            for (int code = 1; code <= 255; code++) {
                WokenOnce x = new WokenOnce();
                long w = Check.packed("aaaaaaa".substring(0, place)) | (long) code << (8 * place);
                String what = "code " + code + " in place " + place;
                Check.due(what, x.letters(w), code <= 126 ? place + 1 : Check.OUTSIDE);
                Check.due(what + ", count(5)", x.count(5), code <= 126 ? place + 1 : 0);
            }
        }
        Check.due("eight of code 126", new WokenOnce().letters(0x7e7e7e7e7e7e7e7eL), 8);
        Check.due("eight of code 127", new WokenOnce().letters(0x7f7f7f7f7f7f7f7fL), Check.OUTSIDE);
    }

    /** "or one behind a 0 that is not 0" */
    private static void byteBehindZero() {
        for (int zero = 0; zero < 8; zero++) {
            long ahead = Check.packed("aaaaaaa".substring(0, zero));
            Check.due("nothing but 0 from place " + zero, new WokenOnce().letters(ahead), zero);
            for (int place = zero + 1; place < 8; place++) {
                for (int code : new int[] {1, 97, 126, 127, 128, 255}) {
                    WokenOnce x = new WokenOnce();
                    long w = ahead | (long) code << (8 * place);
                    String what = "0 in place " + zero + ", code " + code + " in " + place;
                    Check.due(what, x.letters(w), Check.OUTSIDE);
                    Check.due(what + ", count(5)", x.count(5), 0);
                }
            }
        }
    }

    /** "FULL: above 55"; of several refusals OUTSIDE is the first. */
    private static void above55() {
        for (int had = 44; had <= 55; had++) {
            for (int more = 0; more <= 8; more++) {
                WokenOnce x = page(had);
                String what = more + " letters behind " + had;
                boolean full = had + more > 55;
                long letters = Check.packed("abcdefgh".substring(0, more));
                Check.due(what, x.letters(letters), full ? Check.FULL : had + more);
                Check.due(what + ", count(5)", x.count(5), full ? had : had + more);
                Check.due(what + ", one is none", x.letters(letters << 8 | 200), Check.OUTSIDE);
            }
        }
        WokenOnce x = page(55);
        Check.due("OUTSIDE ahead of FULL, behind a 0", x.letters(0x6100L), Check.OUTSIDE);
        x.blank();
        Check.due("there is room again", x.letters(97L), 1);
    }

    /** "THE PAGE is empty: how many letters it had." */
    private static void blankOfEmptyAndFull() {
        for (int had : new int[] {0, 1, 8, 54, 55}) {
            WokenOnce x = page(had);
            Check.due("blank() of " + had, x.blank(), had);
            Check.due("blank() of none", x.blank(), 0);
            Check.due("count(5)", x.count(5), 0);
            Check.due("as if there never was a letter", x.digest(), new WokenOnce().digest());
        }
    }

    /** After this text just these letters may stand: each other one is the fault. */
    private static void goesOn(int beds, int sort, String text, String with) {
        faultIs(beds, sort, text, text.length());
        for (int code = 1; code <= 126; code++) {
            boolean may = with.indexOf(code) >= 0;
            faultIs(beds, sort, text + (char) code, may ? text.length() + 1 : text.length());
        }
        faultIs(beds, sort, text + "~-", text.length());
    }

    private static void faultIs(int beds, int sort, String text, int want) {
        WokenOnce x = house(beds);
        Check.write(x, text);
        Check.due("fault(" + sort + ") of " + quoted(text), x.fault(sort), want);
        Check.due("letters behind fault(" + sort + ")", x.count(5), text.length());
    }

    /** "six parts with / between": "-", or one to four pairs, a to d, in order, each once, a digit 1 to 9. */
    private static void bellGoesOn() {
        String[][] rows = {
            {"", "-abcd"}, {"-", "/"}, {"a", "123456789"}, {"b", "123456789"}, {"c", "123456789"},
            {"d", "123456789"}, {"a1", "bcd/"}, {"b1", "cd/"}, {"c1", "d/"}, {"d1", "/"}, {"a1b1", "cd/"},
            {"a1c1", "d/"}, {"a1d1", "/"}, {"a1b1c1", "d/"}, {FULL_PART, "/"}, {"-/", "-abcd"}, {"d9/", "-abcd"},
            {"-/-", "/"}, {"-/d1", "/"}, {"-/-/-/-/-", "/"}, {"-/-/-/-/a1", "bcd/"}, {"-/-/-/-/-/", "-abcd"},
            {"-/-/-/-/-/c", "123456789"}, {"-/-/-/-/-/a1", "bcd"}, {"-/-/-/-/-/c1", "d"}, {"-/-/-/-/-/d1", ""},
            {SHORTEST_BELL, ""}, {LONGEST_BELL, ""}};
        for (String[] row : rows) {
            goesOn(0, 0, row[0], row[1]);
        }
    }

    /** "its TENTHS, together 10 at most"; the fault is "a digit by which TENTHS are above 10, not the letter". */
    private static void tenthsTogetherTen() {
        String digits = "123456789";
        for (int first = 1; first <= 9; first++) {
            goesOn(0, 0, "a" + first + "b", digits.substring(0, 10 - first));
            goesOn(0, 0, "-/a" + first + "d", digits.substring(0, 10 - first));
            String ten = "b" + first + "c" + (10 - first);
            goesOn(0, 0, ten, "d/");
            goesOn(0, 0, ten + "d", "");
            goesOn(0, 0, ten + "/a", digits);
        }
        goesOn(0, 0, "a1b2c3d", "1234");
        goesOn(0, 0, "a9/a9/a9/a9/a9/a9b", "1");
        goesOn(0, 0, "a9b1/a9b1/a9b1/a9b1/a9b1/a9b1", "cd");
    }

    /** "one to seven digits (SLEEPERS, unlike), then + and a digit"; "not there, or is there already". */
    private static void ruleGoesOn() {
        String digits = "0123456789";
        for (int beds = 0; beds <= 7; beds++) {
            String names = digits.substring(0, beds);
            goesOn(beds, 1, "", names);
            for (int s = 0; s < beds; s++) {
                goesOn(beds, 1, "" + s, "+" + names.replace("" + s, ""));
            }
            if (beds > 0) {
                goesOn(beds, 1, names, "+");
                goesOn(beds, 1, names + "+", digits);
                goesOn(beds, 1, names + "+0", "");
                goesOn(beds, 1, names + "+9", "");
            }
        }
        goesOn(7, 1, "6054", "+123");
        goesOn(7, 1, "305+", digits);
    }

    /** "how many letters it has, if there is none" */
    private static void faultOfEmptyAndFull() {
        Check.due("fault(0) of nothing", new WokenOnce().fault(0), 0);
        Check.due("fault(1) of nothing", new WokenOnce().fault(1), 0);
        WokenOnce x = page(55);
        Check.due("fault(0) of 55 wrong ones", x.fault(0), 0);
        Check.write(x, LONGEST_BELL + "//");
        Check.due("fault(0) behind the longest bell", x.fault(0), 53);
        Check.due("count(5) behind fault", x.count(5), 55);
        Check.write(x, "-/".repeat(27) + "-");
        Check.due("fault(0): the seventh part", x.fault(0), 11);
    }

    private static void bellIs(String text, int pairs) {
        WokenOnce x = new WokenOnce();
        Check.write(x, text);
        Check.due("bell() of " + quoted(text), x.bell(), pairs);
        Check.due("count(6) of " + quoted(text), x.count(6), pairs);
        Check.due("THE PAGE is empty then", x.count(5), 0);
    }

    /** "THE PAGE is read as THE BELL: how many pairs; THE PAGE is empty then." The shortest and the longest. */
    private static void wholeBells() {
        bellIs(SHORTEST_BELL, 0);
        bellIs(LONGEST_BELL, 24);
        bellIs("a1/-/-/-/-/-", 1);
        bellIs("-/-/-/-/-/d9", 1);
        bellIs("-/-/-/-/-/a1b2c3d4", 4);
        bellIs("a9b1/-/-/-/-/-", 2);
        bellIs("d1/d1/d1/d1/d1/d1", 6);
        bellIs("a1b1c1d1/b1c1d1/c1d1/d1/-/-", 10);
    }

    private static void noBell(String text) {
        WokenOnce x = new WokenOnce();
        Check.ring(x, "-/-/d7/-/-/-");
        Check.write(x, text);
        long before = x.digest();
        Check.refused(x, "bell() of " + quoted(text), before, x.bell(), Check.STATE);
        Check.due("THE PAGE stays", x.count(5), text.length());
        Check.due("THE BELL stays", x.tenths(2, 3), 7);
        Check.due("its pairs stay", x.count(6), 1);
    }

    /** "STATE: it is none": whatever is cut off, and whatever has a fault. */
    private static void unfinishedBells() {
        for (String text : new String[] {SHORTEST_BELL, LONGEST_BELL, "a1/-/-/-/-/d9"}) {
            for (int length = 0; length < text.length(); length++) {
                String begun = text.substring(0, length);
                boolean lastPart = begun.chars().filter(c -> c == '/').count() == 5;
                if (!lastPart || !begun.matches(".*[-1-9]")) {
                    noBell(begun);
                }
            }
            noBell(text + "/");
            noBell(text + "-");
            noBell("-" + text);
            noBell("/" + text);
        }
        noBell("a9b2/-/-/-/-/-");
        noBell("-/-/-/-/-/a9b1c1");
        noBell("a0/-/-/-/-/-");
        noBell("b1a1/-/-/-/-/-");
        noBell("a1a1/-/-/-/-/-");
        noBell("e1/-/-/-/-/-");
        noBell("-/-/-//-/-");
        noBell("0+1");
    }

    /** "(another one is gone)": nothing of it is left, whatever its parts were. */
    private static void anotherBell() {
        WokenOnce x = new WokenOnce();
        Check.ring(x, LONGEST_BELL);
        Check.ring(x, "-/b9/-/-/-/-");
        WokenOnce y = new WokenOnce();
        Check.ring(y, "-/b9/-/-/-/-");
        Check.due("as if the other never was", x.digest(), y.digest());
        Check.ring(x, SHORTEST_BELL);
        Check.due("as if there never was a bell", x.digest(), new WokenOnce().digest());
    }

    private static void ruleIs(int beds, String text, int sleepers) {
        WokenOnce x = house(beds);
        Check.write(x, text);
        Check.due("rule() of " + quoted(text), x.rule(), sleepers);
        Check.due("count(7) of " + quoted(text), x.count(7), sleepers);
        Check.due("THE PAGE is empty then", x.count(5), 0);
    }

    /** "THE PAGE is read as THE RULE: how many SLEEPERS": one to seven, TENS 0 to 9. */
    private static void wholeRules() {
        for (int s = 0; s < 7; s++) {
            ruleIs(s + 1, s + "+0", 1);
            ruleIs(7, "0123456".substring(s) + "+9", 7 - s);
        }
        ruleIs(7, "6543210+5", 7);
        for (int tens = 0; tens <= 9; tens++) {
            ruleIs(1, "0+" + tens, 1);
        }
    }

    private static void noRule(int beds, String text) {
        WokenOnce x = house(beds);
        boolean hung = beds > 0;
        if (hung) {
            Check.hang(x, "0+7");
        }
        Check.write(x, text);
        long before = x.digest();
        Check.refused(x, "rule() of " + quoted(text) + " with " + beds, before, x.rule(), Check.STATE);
        Check.due("THE PAGE stays", x.count(5), text.length());
        Check.due("THE RULE stays", x.count(7), hung ? 1 : 0);
    }

    /** "STATE: it is none" */
    private static void unfinishedRules() {
        String whole = "6543210+9";
        for (int length = 0; length < whole.length(); length++) {
            noRule(7, whole.substring(0, length));
        }
        for (int beds = 0; beds < 7; beds++) {
            noRule(beds, beds + "+0");
            noRule(beds, "7+0");
        }
        for (String text : new String[] {"+", "+0", "00+0", "0120+0", "0+00", "0++0", "0+0+", "0+a", "0+-", "0-0",
            "0 +0", " 0+0", "01234566+0", "65432107+0", "9+0", SHORTEST_BELL}) {
            noRule(7, text);
        }
    }

    /** "(another one is gone)": its SLEEPERS and its TENS. */
    private static void anotherRule() {
        WokenOnce x = house(7);
        WokenOnce y = house(7);
        for (WokenOnce each : new WokenOnce[] {x, y}) {
            Check.ring(each, "a1b1/-/-/-/-/-");
        }
        Check.hang(x, "6543210+9");
        Check.due("they mend 99 of a, nothing of b", x.seen(1 << 6), 1);
        Check.hang(x, "3+0");
        Check.due("nothing of b is enough now", x.seen(1 << 3), 2);
        Check.hang(y, "3+0");
        Check.holds("as if the other never was", Told.by(x).equals(Told.by(y)));
    }

    /** No HOUR is named in which a text may not be read, not even when the NIGHT is over. */
    private static void textsAtAnyHour() {
        WokenOnce x = house(2);
        for (int hour = 0; hour <= 6; hour++) {
            Check.write(x, LONGEST_BELL);
            Check.due("bell() in hour " + hour, x.bell(), 24);
            Check.write(x, "10+3");
            Check.due("rule() in hour " + hour, x.rule(), 2);
            x.come(Check.NONE, 0);
        }
        x.evening();
        Check.due("the bell stays in the next night", x.count(6), 24);
        Check.due("the rule stays in the next night", x.count(7), 2);
        x.sleeper(0, 0);
        Check.due("the rule stays when sleepers come", x.count(7), 2);
    }

    /** "TENTHS by which a THING comes in an HOUR. UNKNOWN: hour (0 to 5), thing." */
    private static void tenthsOfHoursAndThings() {
        WokenOnce x = new WokenOnce();
        Check.ring(x, "a9b1/-/b1/-/c3/a1b2c3d4");
        int[][] want = {{9, 1, 0, 0}, {0, 0, 0, 0}, {0, 1, 0, 0}, {0, 0, 0, 0}, {0, 0, 3, 0}, {1, 2, 3, 4}};
        for (int hour = -2; hour <= 7; hour++) {
            for (int thing = -2; thing <= 5; thing++) {
                boolean known = hour >= 0 && hour <= 5 && thing >= 0 && thing <= 3;
                Check.due("tenths(" + hour + ", " + thing + ")", x.tenths(hour, thing),
                    known ? want[hour][thing] : Check.UNKNOWN);
            }
        }
    }
}
