/** The boundary cases of promises 8 to 12 and of the terms SLEEPERS, KINDS, MENDS, MAY, each sentence by itself. */
public final class EdgeSleepersTest {
    private static final int SLEEPER = 0, NURSE = 1, HEAVY = 2, EARLY = 3, OLD = 4;

    public static void main(String[] args) {
        sevenAtMost();
        kindsAndCosts();
        begunInHourOne();
        fullBehindState();
        skillFrom0To99();
        skillIsAsTold();
        harmFrom0To99();
        mendsInEachHour();
        nurseMendsNineAtMost();
        halfRoundedDown();
        wokenOnceInANight();
        wokenByNumber();
        nurseIsNeverWoken();
        earlyNotIn4And5();
        mendsWhenWoken();
        taken();
        Check.end("EdgeSleepersTest");
    }

    private static void pass(WokenOnce x, int hours) {
        for (int i = 0; i < hours; i++) {
            x.come(Check.NONE, 0);
        }
    }

    private static WokenOnce in(int hour, int kind, int... mends) {
        WokenOnce x = new WokenOnce();
        Check.bed(x, kind, 0, mends);
        pass(x, hour);
        return x;
    }

    /** "SLEEPERS (7 at most, numbered)"; "A SLEEPER: his number. ... FULL." */
    private static void sevenAtMost() {
        WokenOnce x = new WokenOnce();
        for (int s = 0; s < 7; s++) {
            Check.due("about who is not there yet", x.about(s, 0), Check.UNKNOWN);
            Check.due("sleeper " + s, x.sleeper(s % 5, s), s);
            Check.due("count(0)", x.count(0), s + 1);
        }
        for (int kind = 0; kind < 5; kind++) {
            Check.due("the eighth", x.sleeper(kind, 0), Check.FULL);
        }
        Check.due("count(0)", x.count(0), 7);
        for (int s = 0; s < 7; s++) {
            Check.due("kind of " + s, x.about(s, 0), s % 5);
            Check.due("cost of " + s, x.about(s, 1), s);
        }
        Check.due("there is no sleeper 7", x.about(7, 0), Check.UNKNOWN);
        x.evening();
        Check.due("full in the next night, too", x.sleeper(0, 0), Check.FULL);
    }

    /** "OUTSIDE: kind, cost": KINDS are 0 to 4, a COST is 0 to 99. */
    private static void kindsAndCosts() {
        for (int kind = -2; kind <= 6; kind++) {
            for (int cost : new int[] {-2, -1, 0, 1, 98, 99, 100, 101}) {
                WokenOnce x = new WokenOnce();
                boolean good = kind >= 0 && kind <= 4 && cost >= 0 && cost <= 99;
                String what = "sleeper(" + kind + ", " + cost + ")";
                Check.due(what, x.sleeper(kind, cost), good ? 0 : Check.OUTSIDE);
                Check.due(what + ", count(0)", x.count(0), good ? 1 : 0);
                Check.due(what + ", kind", x.about(0, 0), good ? kind : Check.UNKNOWN);
                Check.due(what + ", cost", x.about(0, 1), good ? cost : Check.UNKNOWN);
            }
        }
    }

    /** "STATE: the NIGHT has begun (HOUR 1 or later)" */
    private static void begunInHourOne() {
        for (int hour = 0; hour <= 6; hour++) {
            WokenOnce x = new WokenOnce();
            x.image();
            pass(x, hour);
            Check.due("sleeper in hour " + hour, x.sleeper(0, 0), hour == 0 ? 0 : Check.STATE);
            Check.due("OUTSIDE ahead of STATE, kind", x.sleeper(5, 0), Check.OUTSIDE);
            Check.due("OUTSIDE ahead of STATE, cost", x.sleeper(0, 100), Check.OUTSIDE);
            Check.due("count(0)", x.count(0), hour == 0 ? 1 : 0);
            x.evening();
            Check.due("in the next evening", x.sleeper(0, 0), hour == 0 ? 1 : 0);
        }
        WokenOnce x = new WokenOnce();
        x.image();
        pass(x, 3);
        x.restore();
        Check.due("back in hour 0", x.sleeper(0, 0), 0);
    }

    /** Of several refusals the first as told: OUTSIDE, STATE, FULL. */
    private static void fullBehindState() {
        WokenOnce x = new WokenOnce();
        for (int s = 0; s < 7; s++) {
            x.sleeper(0, 0);
        }
        Check.due("OUTSIDE ahead of FULL", x.sleeper(-1, 0), Check.OUTSIDE);
        Check.due("FULL", x.sleeper(0, 0), Check.FULL);
        pass(x, 1);
        Check.due("OUTSIDE ahead of both", x.sleeper(0, -1), Check.OUTSIDE);
        Check.due("STATE ahead of FULL", x.sleeper(0, 0), Check.STATE);
    }

    /** "How much of a THING a SLEEPER MENDS becomes v: what it was"; 0 at first, v is 0 to 99. */
    private static void skillFrom0To99() {
        for (int thing = 0; thing < 4; thing++) {
            WokenOnce x = in(0, SLEEPER);
            int was = 0;
            for (int v : new int[] {-1, 0, 1, 98, 99, 100, 0, 99, -1, 50, 100}) {
                boolean good = v >= 0 && v <= 99;
                Check.due("skill(0, " + thing + ", " + v + ")", x.skill(0, thing, v), good ? was : Check.OUTSIDE);
                was = good ? v : was;
                for (int other = 0; other < 4; other++) {
                    Check.due("about(0, 10 + " + other + ")", x.about(0, 10 + other), other == thing ? was : 0);
                }
            }
        }
        WokenOnce x = in(0, SLEEPER);
        for (int thing = -2; thing <= 5; thing++) {
            boolean good = thing >= 0 && thing <= 3;
            Check.due("skill(0, " + thing + ", 1)", x.skill(0, thing, 1), good ? 0 : Check.UNKNOWN);
            Check.due("skill(0, " + thing + ", 100)", x.skill(0, thing, 100), good ? Check.OUTSIDE : Check.UNKNOWN);
            Check.due("skill(1, " + thing + ", 1)", x.skill(1, thing, 1), Check.UNKNOWN);
            Check.due("skill(-1, " + thing + ", -1)", x.skill(-1, thing, -1), Check.UNKNOWN);
        }
    }

    /** What skill() tells is what was told, whatever the KIND and the HOUR make of it. */
    private static void skillIsAsTold() {
        for (int kind = 0; kind < 5; kind++) {
            for (int hour = 0; hour <= 6; hour++) {
                WokenOnce x = in(hour, kind, 99);
                Check.due("skill as told, kind " + kind + ", hour " + hour, x.skill(0, 0, 97), 99);
                Check.due("skill as told then", x.skill(0, 0, 97), 97);
            }
        }
    }

    /** "HARM (0 to 99; 50 at first)"; "HARM of a THING becomes v: what it was." */
    private static void harmFrom0To99() {
        for (int thing = 0; thing < 4; thing++) {
            WokenOnce x = new WokenOnce();
            int was = 50;
            for (int v : new int[] {-1, 0, 1, 98, 99, 100, 0, 99, -1, 50, 100}) {
                boolean good = v >= 0 && v <= 99;
                Check.due("harm(" + thing + ", " + v + ")", x.harm(thing, v), good ? was : Check.OUTSIDE);
                was = good ? v : was;
            }
            for (int other = 0; other < 4; other++) {
                Check.due("harm of " + other, x.harm(other, 50), 50);
            }
        }
        for (int thing = -2; thing <= 5; thing++) {
            boolean good = thing >= 0 && thing <= 3;
            Check.due("harm(" + thing + ", 1)", new WokenOnce().harm(thing, 1), good ? 50 : Check.UNKNOWN);
            Check.due("harm(" + thing + ", 100)", new WokenOnce().harm(thing, 100),
                good ? Check.OUTSIDE : Check.UNKNOWN);
        }
        WokenOnce x = new WokenOnce();
        pass(x, 6);
        Check.due("harm when it is over", x.harm(0, 1), 50);
    }

    private static int due(int kind, int told, int hour) {
        if (hour == 6) {
            return 0;
        }
        switch (kind) {
            case NURSE: return Math.min(told, 9);
            case HEAVY: return hour < 3 ? told / 2 : told;
            case OLD: return told / 2;
            default: return told;
        }
    }

    /** "10 to 13 how much of THINGS 0 to 3 he MENDS in this HOUR (0, if the NIGHT is over)" */
    private static void mendsInEachHour() {
        int[][] tolds = {{0, 1, 2, 3}, {8, 9, 10, 11}, {17, 18, 19, 20}, {96, 97, 98, 99}};
        for (int kind = 0; kind < 5; kind++) {
            for (int[] told : tolds) {
                WokenOnce x = in(0, kind, told);
                for (int hour = 0; hour <= 6; hour++) {
                    for (int thing = 0; thing < 4; thing++) {
                        Check.due("kind " + kind + " told " + told[thing] + " in hour " + hour,
                            x.about(0, 10 + thing), due(kind, told[thing], hour));
                    }
                    pass(x, 1);
                }
            }
        }
    }

    /** "a NURSE 9 at most" */
    private static void nurseMendsNineAtMost() {
        WokenOnce x = in(0, NURSE, 8, 9, 10, 99);
        int[] want = {8, 9, 9, 9};
        for (int thing = 0; thing < 4; thing++) {
            Check.due("a nurse, thing " + thing, x.about(0, 10 + thing), want[thing]);
            Check.due("come for thing " + thing, x.come(thing, 1), want[thing]);
        }
    }

    /** "a HEAVY half (rounded down) in HOURS 0 to 2; an OLD half in all HOURS" */
    private static void halfRoundedDown() {
        for (int hour = 0; hour < 6; hour++) {
            WokenOnce heavy = in(hour, HEAVY, 1, 2, 3, 99);
            int[] all = {1, 2, 3, 99};
            int[] half = {0, 1, 1, 49};
            WokenOnce old = in(hour, OLD, 1, 2, 3, 99);
            for (int thing = 0; thing < 4; thing++) {
                Check.due("a heavy one in hour " + hour, heavy.about(0, 10 + thing),
                    hour <= 2 ? half[thing] : all[thing]);
                Check.due("an old one in hour " + hour, old.about(0, 10 + thing), half[thing]);
            }
            heavy.harm(3, 99);
            old.harm(3, 99);
            Check.due("a heavy one is woken in hour " + hour, heavy.come(3, 1), hour <= 2 ? 49 : 99);
            Check.due("an old one is woken in hour " + hour, old.come(3, 1), 49);
        }
    }

    /** "He MAY be woken, if he was not in this NIGHT" */
    private static void wokenOnceInANight() {
        for (int kind : new int[] {SLEEPER, HEAVY, EARLY, OLD}) {
            for (int hour = 0; hour < (kind == EARLY ? 4 : 6); hour++) {
                WokenOnce x = in(hour, kind, 40);
                Check.due("not woken yet", x.about(0, 2), 0);
                Check.due("may be woken", x.about(0, 3), 1);
                x.come(3, 1);
                for (int later = hour + 1; later <= 6; later++) {
                    Check.due("woken", x.about(0, 2), 1);
                    Check.due("may not be woken again", x.about(0, 3), 0);
                    Check.due("come again in hour " + later, x.come(0, 1), Check.STATE);
                    pass(x, 1);
                }
                x.evening();
                Check.due("not woken in the next night", x.about(0, 2), 0);
                Check.due("may be woken in the next night", x.about(0, 3), 1);
            }
        }
    }

    /** Who was woken is told of each by himself, whatever his number. */
    private static void wokenByNumber() {
        for (int kind : new int[] {SLEEPER, HEAVY, EARLY, OLD}) {
            for (int woken = 0; woken < 7; woken++) {
                WokenOnce x = new WokenOnce();
                for (int s = 0; s < 7; s++) {
                    x.sleeper(kind, 0);
                }
                x.come(0, 1 << woken);
                for (int s = 0; s < 7; s++) {
                    Check.due(s + " was woken, if " + woken, x.about(s, 2), s == woken ? 1 : 0);
                    Check.due(s + " may be woken, if not " + woken, x.about(s, 3), s == woken ? 0 : 1);
                }
                Check.due("once more", x.come(0, 1 << woken), Check.STATE);
                Check.due("another", x.come(0, 1 << (woken + 1) % 7), 0);
                Check.due("count(2)", x.count(2), 2);
            }
        }
    }

    /** "a NURSE always (she never sleeps, and so is never woken)" */
    private static void nurseIsNeverWoken() {
        WokenOnce x = in(0, NURSE, 9);
        for (int hour = 0; hour < 6; hour++) {
            Check.due("may be woken in hour " + hour, x.about(0, 3), 1);
            Check.due("come in hour " + hour, x.come(0, 1), 9);
            Check.due("is not woken", x.about(0, 2), 0);
            Check.due("count(2)", x.count(2), 0);
        }
        Check.due("always", x.about(0, 3), 1);
    }

    /** "an EARLY not in HOURS 4 and 5" */
    private static void earlyNotIn4And5() {
        for (int hour = 0; hour < 6; hour++) {
            WokenOnce x = in(hour, EARLY, 9);
            Check.due("an early one may in hour " + hour, x.about(0, 3), hour < 4 ? 1 : 0);
            Check.due("an early one mends in hour " + hour, x.about(0, 10), 9);
            Check.due("an early one in hour " + hour, x.come(0, 1), hour < 4 ? 9 : Check.STATE);
            Check.due("woken", x.about(0, 2), hour < 4 ? 1 : 0);
            Check.due("count(1)", x.count(1), hour < 4 ? hour + 1 : hour);
        }
        Check.due("the words name no other hour, when it is over", in(6, EARLY).about(0, 3), 1);
    }

    /** What he MENDS in an HOUR is told whether or not he MAY be woken. */
    private static void mendsWhenWoken() {
        for (int kind = 0; kind < 5; kind++) {
            WokenOnce x = in(0, kind, 41);
            x.come(3, 1);
            Check.due("mends, though woken, kind " + kind, x.about(0, 10), due(kind, 41, 1));
        }
    }

    /** "All are SLEEPERS; an OLD is HEAVY, too." "NONE: he is none such (the cast fails)" */
    private static void taken() {
        String[] kinds = {"0", "01", "02", "03", "024"};
        for (int own = 0; own < 5; own++) {
            WokenOnce x = new WokenOnce();
            for (int s = 0; s < 7; s++) {
                x.sleeper(own, 0);
            }
            for (int s = -1; s <= 7; s++) {
                for (int kind = -1; kind <= 5; kind++) {
                    boolean is = kinds[own].contains("" + kind);
                    int taken = is ? s : Check.NONE;
                    int known = kind < 0 || kind > 4 ? Check.OUTSIDE : taken;
                    Check.due("as(" + s + ", " + kind + ") of kind " + own, x.as(s, kind),
                        s < 0 || s > 6 ? Check.UNKNOWN : known);
                }
            }
        }
    }
}
