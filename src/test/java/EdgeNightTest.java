/** The boundary cases of promises 13, 14, 25, 26, 27 and of the terms NIGHT, MENDED, LEFT, IMAGE. */
public final class EdgeNightTest {
    private static final int SLEEPER = 0, NURSE = 1, HEAVY = 2, EARLY = 3, OLD = 4;

    public static void main(String[] args) {
        sixHours();
        thingsThatCome();
        setsThatAreWoken();
        twoAtMost();
        harmAtMost();
        nothingComes();
        oneMayNot();
        firstRefusal();
        eveningInEachHour();
        leftInAllNights();
        imageInEachHour();
        imageOfHouse();
        latestImage();
        noImage();
        sleepersCameSince();
        countOfEach();
        countFrom0To7();
        Check.end("EdgeNightTest");
    }

    private static void pass(WokenOnce x, int hours) {
        for (int i = 0; i < hours; i++) {
            x.come(Check.NONE, 0);
        }
    }

    private static WokenOnce house(int... kinds) {
        WokenOnce x = new WokenOnce();
        for (int s = 0; s < kinds.length; s++) {
            Check.bed(x, kinds[s], 0, 10 + s, 20 + s, 30 + s, 40 + s);
        }
        return x;
    }

    /** "A NIGHT has HOURS 0 to 5 (6: it is over)"; "STATE: the NIGHT is over". */
    private static void sixHours() {
        WokenOnce x = new WokenOnce();
        for (int hour = 0; hour < 6; hour++) {
            Check.due("count(1)", x.count(1), hour);
            Check.due("come in hour " + hour, x.come(hour % 5 - 1, 0), 0);
        }
        for (int thing = -1; thing < 4; thing++) {
            Check.due("count(1) when it is over", x.count(1), 6);
            Check.due("come(" + thing + ", 0) when it is over", x.come(thing, 0), Check.STATE);
        }
        Check.due("the hour is as it was", x.count(1), 6);
        x.evening();
        Check.due("come in the next night", x.come(0, 0), 0);
    }

    /** "A THING comes (NONE: nothing)"; "UNKNOWN: thing". */
    private static void thingsThatCome() {
        for (int thing = -3; thing <= 6; thing++) {
            WokenOnce x = house(SLEEPER);
            boolean good = thing >= 0 && thing <= 3;
            int want = good ? 10 + 10 * thing : thing == -1 ? 0 : Check.UNKNOWN;
            Check.due("come(" + thing + ")", x.come(thing, good ? 1 : 0), want);
            Check.due("count(1)", x.count(1), good || thing == -1 ? 1 : 0);
            Check.due("count(4)", x.count(4), good ? 50 - want : 0);
        }
    }

    /** "OUTSIDE: set (bits of SLEEPERS, two at most)": with each number of SLEEPERS every set that a byte holds. */
    private static void setsThatAreWoken() {
        for (int beds = 0; beds <= 7; beds++) {
            for (int set = -1; set <= 256; set++) {
                WokenOnce x = house(new int[beds]);
                boolean good = set >= 0 && set < 1 << beds && Integer.bitCount(set) <= 2;
                int sum = 0;
                for (int s = 0; s < beds; s++) {
                    sum += (set & 1 << s) != 0 ? 10 + s : 0;
                }
                String what = "come(0, " + set + ") of " + beds;
                Check.due(what, x.come(0, set), good ? sum : Check.OUTSIDE);
                Check.due(what + ", count(1)", x.count(1), good ? 1 : 0);
                Check.due(what + ", count(2)", x.count(2), good ? Integer.bitCount(set) : 0);
            }
        }
        for (int bit = 7; bit < 32; bit++) {
            Check.due("bit " + bit, house(new int[7]).come(0, 1 << bit), Check.OUTSIDE);
            Check.due("bit " + bit + " and 0", house(new int[7]).come(0, 1 << bit | 1), Check.OUTSIDE);
        }
    }

    /** "nobody, one, or two may be woken for it": NURSES count as well as others. */
    private static void twoAtMost() {
        WokenOnce x = house(NURSE, NURSE, NURSE, SLEEPER, SLEEPER);
        Check.due("three nurses", x.come(0, 7), Check.OUTSIDE);
        Check.due("two nurses and another", x.come(0, 11), Check.OUTSIDE);
        Check.due("a nurse and two others", x.come(0, 25), Check.OUTSIDE);
        Check.due("nobody", x.come(0, 0), 0);
        Check.due("two nurses", x.come(0, 3), 18);
        Check.due("a nurse and another", x.come(0, 12), 9 + 13);
        Check.due("one", x.come(0, 16), 14);
        Check.due("one nurse", x.come(0, 4), 9);
        Check.due("count(2)", x.count(2), 2);
    }

    /** "MENDED is what they MEND together, its HARM at most; LEFT is the rest of its HARM." */
    private static void harmAtMost() {
        int[][] rows = {{0, 0}, {0, 1}, {1, 0}, {1, 1}, {49, 50}, {50, 50}, {51, 50}, {98, 99}, {99, 99}, {99, 98},
            {99, 0}, {0, 99}};
        for (int[] row : rows) {
            WokenOnce x = new WokenOnce();
            Check.bed(x, SLEEPER, 0, row[0]);
            x.harm(0, row[1]);
            String what = row[0] + " of " + row[1];
            Check.due(what, x.come(0, 1), Math.min(row[0], row[1]));
            Check.due(what + ", mended", x.count(3), Math.min(row[0], row[1]));
            Check.due(what + ", left", x.count(4), row[1] - Math.min(row[0], row[1]));
        }
        int[][] pairs = {{25, 24, 49}, {25, 25, 50}, {25, 26, 50}, {99, 99, 50}, {0, 50, 50}, {1, 0, 1}};
        for (int[] pair : pairs) {
            WokenOnce x = new WokenOnce();
            Check.bed(x, SLEEPER, 0, 0, pair[0]);
            Check.bed(x, SLEEPER, 0, 0, pair[1]);
            Check.due(pair[0] + " and " + pair[1], x.come(1, 3), pair[2]);
            Check.due("left", x.count(4), 50 - pair[2]);
        }
        WokenOnce x = new WokenOnce();
        Check.bed(x, HEAVY, 0, 41);
        Check.bed(x, OLD, 0, 41);
        x.harm(0, 99);
        Check.due("each half is rounded by itself", x.come(0, 3), 40);
    }

    /** "If nothing comes, nobody is woken. Then it is the next HOUR"; STATE: "somebody would be woken". */
    private static void nothingComes() {
        for (int kind = 0; kind < 5; kind++) {
            WokenOnce x = house(kind, kind);
            for (int set = 1; set <= 3; set++) {
                Check.due("nothing comes, " + set + " of kind " + kind, x.come(Check.NONE, set), Check.STATE);
            }
            Check.due("count(1)", x.count(1), 0);
            Check.due("nothing comes", x.come(Check.NONE, 0), 0);
            Check.due("count(1)", x.count(1), 1);
            Check.due("nothing mended", x.count(3), 0);
            Check.due("nothing left", x.count(4), 0);
            Check.due("nobody woken", x.count(2), 0);
        }
    }

    /** "STATE: ... one of them MAY not be woken" */
    private static void oneMayNot() {
        WokenOnce x = house(SLEEPER, SLEEPER, NURSE, EARLY);
        x.come(3, 1);
        Check.due("he", x.come(0, 1), Check.STATE);
        Check.due("he and another", x.come(0, 3), Check.STATE);
        Check.due("he and a nurse", x.come(0, 5), Check.STATE);
        Check.due("the other was not woken by it", x.about(1, 2), 0);
        pass(x, 3);
        Check.due("an early one in hour 4", x.come(0, 8), Check.STATE);
        Check.due("an early one and another", x.come(0, 10), Check.STATE);
        Check.due("the other alone", x.come(0, 2), 11);
        Check.due("an early one and a nurse in hour 5", x.come(0, 12), Check.STATE);
        Check.due("the nurse alone", x.come(0, 4), 9);
    }

    /** Of several refusals the first as told: UNKNOWN, OUTSIDE, STATE. */
    private static void firstRefusal() {
        WokenOnce x = house(SLEEPER, SLEEPER, SLEEPER);
        x.come(0, 1);
        Check.due("UNKNOWN ahead of OUTSIDE", x.come(4, 8), Check.UNKNOWN);
        Check.due("UNKNOWN ahead of STATE", x.come(-2, 1), Check.UNKNOWN);
        Check.due("OUTSIDE ahead of STATE, three", x.come(0, 7), Check.OUTSIDE);
        Check.due("OUTSIDE ahead of STATE, nothing comes", x.come(-1, 8), Check.OUTSIDE);
        pass(x, 5);
        Check.due("UNKNOWN when it is over", x.come(4, 0), Check.UNKNOWN);
        Check.due("OUTSIDE when it is over", x.come(0, 8), Check.OUTSIDE);
        Check.due("STATE when it is over", x.come(0, 2), Check.STATE);
    }

    /** "The next NIGHT: HOUR 0, nobody was woken" */
    private static void eveningInEachHour() {
        for (int hour = 0; hour <= 6; hour++) {
            WokenOnce x = house(SLEEPER, EARLY, NURSE);
            for (int h = 0; h < hour; h++) {
                x.come(3, h < 2 ? 1 << h : 0);
            }
            int left = x.count(4);
            int mended = x.count(3);
            Check.due("evening in hour " + hour, x.evening(), left);
            Check.due("evening again", x.evening(), left);
            Check.due("count(1)", x.count(1), 0);
            Check.due("count(2)", x.count(2), 0);
            Check.due("count(3)", x.count(3), mended);
            Check.due("count(4)", x.count(4), left);
            Check.due("both may be woken", x.come(0, 3), 21);
        }
    }

    /** "what was LEFT in all NIGHTS so far": as many as 512 calls can tell of. */
    private static void leftInAllNights() {
        WokenOnce x = new WokenOnce();
        x.harm(3, 99);
        int calls = 1;
        int left = 0;
        for (int night = 0; calls + 7 < 512; night++) {
            for (int hour = 0; hour < 6; hour++) {
                x.come(3, 0);
                left += 99;
            }
            Check.due("left behind night " + night, x.evening(), left);
            calls += 7;
        }
        Check.due("count(4)", x.count(4), 72 * 6 * 99);
    }

    /** "An IMAGE is kept: the HOUR"; "It goes on from the IMAGE: the HOUR." */
    private static void imageInEachHour() {
        for (int hour = 0; hour <= 6; hour++) {
            for (int then = 0; then <= 6; then++) {
                WokenOnce x = house(SLEEPER, EARLY);
                pass(x, hour);
                Check.due("image() in hour " + hour, x.image(), hour);
                x.evening();
                pass(x, then);
                Check.due("restore() in hour " + then, x.restore(), hour);
                Check.due("count(1)", x.count(1), hour);
            }
        }
    }

    /** "An IMAGE keeps the HOUR, who was woken, what was MENDED, LEFT, HARMS, what SLEEPERS MEND." */
    private static void imageOfHouse() {
        WokenOnce x = house(SLEEPER, NURSE, HEAVY, EARLY, OLD, SLEEPER, SLEEPER);
        x.come(0, 65);
        x.come(1, 4);
        x.image();
        long kept = x.digest();
        for (int thing = 0; thing < 4; thing++) {
            x.harm(thing, thing * 33);
            for (int s = 0; s < 7; s++) {
                x.skill(s, thing, 99 - s);
            }
        }
        Check.holds("all is other than it was", x.digest() != kept);
        x.come(2, 2 | 8);
        x.come(2, 16);
        x.evening();
        x.come(0, 32);
        Check.due("restore()", x.restore(), 2);
        Check.due("as it was kept", x.digest(), kept);
        int[] woken = {1, 0, 1, 0, 0, 0, 1};
        for (int s = 0; s < 7; s++) {
            Check.due("woken " + s, x.about(s, 2), woken[s]);
            for (int thing = 0; thing < 4; thing++) {
                Check.due("skill of " + s, x.skill(s, thing, 0), 10 + 10 * thing + s);
            }
        }
        Check.due("mended", x.count(3), 10 + 16 + 11);
        Check.due("left", x.count(4), 24 + 39);
        Check.due("harm", x.harm(3, 0), 50);
        x.restore();
        Check.due("once more as it was kept", x.digest(), kept);
    }

    /** "An IMAGE is kept (one; the latest)" */
    private static void latestImage() {
        WokenOnce x = house(SLEEPER);
        for (int hour = 0; hour <= 6; hour++) {
            x.harm(0, hour);
            Check.due("image()", x.image(), hour);
            pass(x, 1);
        }
        x.evening();
        Check.due("the latest", x.restore(), 6);
        Check.due("its harm", x.harm(0, 77), 6);
        x.evening();
        Check.due("the latest once more", x.restore(), 6);
        Check.due("its harm once more", x.harm(0, 77), 6);
        x.evening();
        x.image();
        pass(x, 4);
        Check.due("a later one of an earlier hour", x.restore(), 0);
    }

    /** "STATE: none was kept" */
    private static void noImage() {
        for (int beds = 0; beds <= 7; beds++) {
            WokenOnce x = house(new int[beds]);
            pass(x, beds % 7);
            Check.due("restore() with " + beds, x.restore(), Check.STATE);
            Check.due("count(1)", x.count(1), beds % 7);
            x.image();
            Check.due("restore() with " + beds, x.restore(), beds % 7);
        }
    }

    /** "or SLEEPERS came since": it is none more till another IMAGE is kept; who was refused did not come. */
    private static void sleepersCameSince() {
        for (int beds = 0; beds < 7; beds++) {
            WokenOnce x = house(new int[beds]);
            x.image();
            Check.due("refused", x.sleeper(5, 0), Check.OUTSIDE);
            Check.due("nobody came", x.restore(), 0);
            Check.due("one came", x.sleeper(0, 0), beds);
            Check.due("restore() behind him", x.restore(), Check.STATE);
            pass(x, 2);
            Check.due("restore() later", x.restore(), Check.STATE);
            Check.due("count(1)", x.count(1), 2);
            x.evening();
            Check.due("restore() in the next night", x.restore(), Check.STATE);
            pass(x, 1);
            Check.due("another image", x.image(), 1);
            Check.due("refused, begun", x.sleeper(0, 0), Check.STATE);
            Check.due("restore()", x.restore(), 1);
        }
        WokenOnce x = house(new int[7]);
        x.image();
        Check.due("refused, full", x.sleeper(0, 0), Check.FULL);
        Check.due("restore()", x.restore(), 0);
    }

    private static void counts(WokenOnce x, String when, int... want) {
        for (int what = 0; what < 8; what++) {
            Check.due("count(" + what + ") " + when, x.count(what), want[what]);
        }
    }

    /** "How many: 0 SLEEPERS, 1 the HOUR, ... 7 SLEEPERS in THE RULE": none and as many as there can be. */
    private static void countOfEach() {
        WokenOnce x = new WokenOnce();
        counts(x, "at first", 0, 0, 0, 0, 0, 0, 0, 0);
        for (int s = 0; s < 7; s++) {
            Check.bed(x, SLEEPER, 0, 99);
        }
        Check.ring(x, "a1b2c3d4/a1b2c3d4/a1b2c3d4/a1b2c3d4/a1b2c3d4/a1b2c3d4");
        Check.hang(x, "6543210+9");
        Check.write(x, "~".repeat(55));
        x.harm(0, 99);
        counts(x, "full", 7, 0, 0, 0, 0, 55, 24, 7);
        x.come(0, 3);
        x.come(0, 12);
        counts(x, "in hour 2", 7, 2, 4, 198, 0, 55, 24, 7);
        x.come(0, 48);
        x.come(0, 64);
        x.come(0, 0);
        counts(x, "all were woken", 7, 5, 7, 396, 99, 55, 24, 7);
        x.come(1, 0);
        counts(x, "over", 7, 6, 7, 396, 149, 55, 24, 7);
        x.evening();
        counts(x, "in the evening", 7, 0, 0, 396, 149, 55, 24, 7);
        x.blank();
        counts(x, "blank", 7, 0, 0, 396, 149, 0, 24, 7);
    }

    /** "OUTSIDE": what is 0 to 7. */
    private static void countFrom0To7() {
        for (int what = -3; what <= 16; what++) {
            Check.due("count(" + what + ")", new WokenOnce().count(what), what >= 0 && what <= 7 ? 0 : Check.OUTSIDE);
        }
    }
}
