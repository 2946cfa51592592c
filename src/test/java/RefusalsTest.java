import java.util.EnumSet;
import java.util.Set;
import java.util.function.ToLongFunction;

/**
 * "Refusals, of several the first as told by each call: UNKNOWN, OUTSIDE, STATE, FULL; they change nothing."
 * Each refusal of each call, in every scene where it is due, beside a twin that was not asked.
 */
public final class RefusalsTest {
    private static final Set<Scene> ALL = EnumSet.allOf(Scene.class);
    private static final Set<Scene> WITH_BEDS = EnumSet.complementOf(EnumSet.of(Scene.NEW));
    private static final Set<Scene> WITHOUT_RULE = EnumSet.of(Scene.NEW, Scene.NO_RULE);
    private static final Set<Scene> FULL_HOUSES = EnumSet.of(Scene.CROWDED, Scene.NEXT_NIGHT, Scene.OUTGROWN);
    private static final Set<Scene> BEGUN = EnumSet.of(Scene.MIDNIGHT, Scene.LATE, Scene.OVER);
    private static final Set<Scene> FULL_PAGES = EnumSet.range(Scene.CROWDED, Scene.NEXT_NIGHT);
    private static final int MIN = Integer.MIN_VALUE, MAX = Integer.MAX_VALUE;

    public static void main(String[] args) {
        scenesAreUnlike();
        texts();
        sleepers();
        come();
        best();
        whomAndKnown();
        ruled();
        morning();
        ofAll();
        Check.end("RefusalsTest");
    }

    private static void refused(Set<Scene> scenes, String call, long want, ToLongFunction<WokenOnce> made) {
        for (Scene scene : scenes) {
            String where = call + " in " + scene;
            WokenOnce x = scene.make();
            Check.due(where, made.applyAsLong(x), want);
            Check.due(where + " once more", made.applyAsLong(x), want);
            Check.holds(where + " changes nothing", Told.by(x).equals(Told.by(scene.make())));
        }
    }

    /** First number of a sleeper, or bit of a set, that names nobody. */
    private static int next(WokenOnce x) {
        return x.count(0);
    }

    /** Two scenes that told alike would hide what a call changed. */
    private static void scenesAreUnlike() {
        for (Scene scene : ALL) {
            for (Scene other : ALL) {
                boolean alike = Told.by(scene.make()).equals(Told.by(other.make()));
                Check.due(scene + " tells as " + other, alike ? 1 : 0, scene == other ? 1 : 0);
            }
        }
    }

    private static void texts() {
        refused(ALL, "letters(127)", Check.OUTSIDE, x -> x.letters(127L));
        refused(ALL, "letters(a, 128)", Check.OUTSIDE, x -> x.letters(0x8061L));
        refused(ALL, "letters(0, a)", Check.OUTSIDE, x -> x.letters(0x6100L));
        refused(ALL, "letters(eight, the last 127)", Check.OUTSIDE, x -> x.letters(0x7f61616161616161L));
        refused(FULL_PAGES, "the 56th letter", Check.FULL, x -> x.letters(97L));
        refused(FULL_PAGES, "eight letters more", Check.FULL, x -> x.letters(0x6161616161616161L));
        for (int sort : new int[] {-1, 2, MIN, MAX}) {
            refused(ALL, "fault(" + sort + ")", Check.OUTSIDE, x -> x.fault(sort));
        }
        refused(ALL, "bell()", Check.STATE, x -> x.bell());
        Set<Scene> noRule = EnumSet.copyOf(ALL);
        noRule.remove(Scene.NO_RULE);
        refused(noRule, "rule()", Check.STATE, x -> x.rule());
        for (int wrong : new int[] {-1, 6, MIN, MAX}) {
            refused(ALL, "tenths(" + wrong + ", 0)", Check.UNKNOWN, x -> x.tenths(wrong, 0));
            int thing = wrong == 6 ? 4 : wrong;
            refused(ALL, "tenths(0, " + thing + ")", Check.UNKNOWN, x -> x.tenths(0, thing));
        }
    }

    private static void sleepers() {
        for (int wrong : new int[] {-1, 100, MIN, MAX}) {
            int kind = wrong == 100 ? 5 : wrong;
            int thing = wrong == 100 ? 4 : wrong;
            refused(ALL, "sleeper(" + kind + ", 0)", Check.OUTSIDE, x -> x.sleeper(kind, 0));
            refused(ALL, "sleeper(0, " + wrong + ")", Check.OUTSIDE, x -> x.sleeper(0, wrong));
            refused(WITH_BEDS, "skill(0, 0, " + wrong + ")", Check.OUTSIDE, x -> x.skill(0, 0, wrong));
            refused(WITH_BEDS, "skill(0, " + thing + ", 1)", Check.UNKNOWN, x -> x.skill(0, thing, 1));
            refused(WITH_BEDS, "skill(0, " + thing + ", 100)", Check.UNKNOWN, x -> x.skill(0, thing, 100));
            refused(ALL, "skill(nobody, 0, " + wrong + ")", Check.UNKNOWN, x -> x.skill(next(x), 0, wrong));
            refused(ALL, "harm(0, " + wrong + ")", Check.OUTSIDE, x -> x.harm(0, wrong));
            refused(ALL, "harm(" + thing + ", 1)", Check.UNKNOWN, x -> x.harm(thing, 1));
            refused(ALL, "harm(" + thing + ", 100)", Check.UNKNOWN, x -> x.harm(thing, 100));
            refused(WITH_BEDS, "as(0, " + kind + ")", Check.OUTSIDE, x -> x.as(0, kind));
            refused(ALL, "as(nobody, " + kind + ")", Check.UNKNOWN, x -> x.as(next(x), kind));
        }
        refused(BEGUN, "sleeper(0, 0), begun", Check.STATE, x -> x.sleeper(0, 0));
        refused(FULL_HOUSES, "sleeper(0, 0), full", Check.FULL, x -> x.sleeper(0, 0));
        for (int s : new int[] {-1, 7, MIN, MAX}) {
            refused(ALL, "skill(" + s + ", 0, 1)", Check.UNKNOWN, x -> x.skill(s, 0, 1));
            refused(ALL, "skill(" + s + ", 4, 100)", Check.UNKNOWN, x -> x.skill(s, 4, 100));
            refused(ALL, "about(" + s + ", 0)", Check.UNKNOWN, x -> x.about(s, 0));
            refused(ALL, "as(" + s + ", 0)", Check.UNKNOWN, x -> x.as(s, 0));
        }
        refused(ALL, "skill(nobody, 0, 1)", Check.UNKNOWN, x -> x.skill(next(x), 0, 1));
        refused(ALL, "about(nobody, 0)", Check.UNKNOWN, x -> x.about(next(x), 0));
        refused(ALL, "as(nobody, 0)", Check.UNKNOWN, x -> x.as(next(x), 0));
        for (int what : new int[] {-1, 4, 9, 14, MIN, MAX}) {
            refused(WITH_BEDS, "about(0, " + what + ")", Check.OUTSIDE, x -> x.about(0, what));
            refused(ALL, "about(nobody, " + what + ")", Check.UNKNOWN, x -> x.about(next(x), what));
        }
    }

    private static void come() {
        for (int thing : new int[] {-2, 4, MIN, MAX}) {
            refused(ALL, "come(" + thing + ", 0)", Check.UNKNOWN, x -> x.come(thing, 0));
            refused(ALL, "come(" + thing + ", -1)", Check.UNKNOWN, x -> x.come(thing, -1));
        }
        for (int thing : new int[] {Check.NONE, 0, 3}) {
            String come = "come(" + thing + ", ";
            for (int set : new int[] {-1, 128, MIN, MAX, MIN + 1, 1 << 30}) {
                refused(ALL, come + set + ")", Check.OUTSIDE, x -> x.come(thing, set));
            }
            refused(ALL, come + "nobody)", Check.OUTSIDE, x -> x.come(thing, 1 << next(x)));
            refused(WITH_BEDS, come + "somebody and nobody)", Check.OUTSIDE, x -> x.come(thing, 1 << next(x) | 1));
            refused(WITH_BEDS, come + "three)", Check.OUTSIDE, x -> x.come(thing, 7));
        }
        Set<Scene> firstWoken = BEGUN;
        refused(firstWoken, "who was woken", Check.STATE, x -> x.come(0, 1));
        refused(firstWoken, "who was woken, and a nurse", Check.STATE, x -> x.come(0, 3));
        refused(firstWoken, "another, and who was woken", Check.STATE, x -> x.come(0, 1 << 5 | 1));
        refused(EnumSet.of(Scene.LATE), "an early one too late", Check.STATE, x -> x.come(0, 1 << Scene.EARLY));
        refused(EnumSet.of(Scene.LATE), "another, and an early one", Check.STATE,
            x -> x.come(0, 1 << Scene.EARLY | 1 << 6));
        refused(WITH_BEDS, "nothing comes, the last is woken", Check.STATE, x -> x.come(-1, 1 << (next(x) - 1)));
        refused(WITH_BEDS, "nothing comes, a nurse", Check.STATE, x -> x.come(Check.NONE, 1 << Scene.NURSE));
        refused(EnumSet.of(Scene.OVER), "over, a thing", Check.STATE, x -> x.come(0, 0));
        refused(EnumSet.of(Scene.OVER), "over, nothing", Check.STATE, x -> x.come(Check.NONE, 0));
        refused(EnumSet.of(Scene.OVER), "over, a nurse", Check.STATE, x -> x.come(3, 1 << Scene.NURSE));
    }

    private static void best() {
        for (int part : new int[] {-1, 2, MIN, MAX}) {
            refused(ALL, "best(" + part + ")", Check.OUTSIDE, x -> x.best(part));
            refused(ALL, "byRule(" + part + ")", Check.OUTSIDE, x -> x.byRule(part));
            refused(WITH_BEDS, "worth(0, " + part + ")", Check.OUTSIDE, x -> x.worth(0, part));
            refused(ALL, "worth(nobody, " + part + ")", Check.UNKNOWN, x -> x.worth(next(x), part));
        }
        for (int s : new int[] {-1, 7, MIN, MAX}) {
            refused(ALL, "worth(" + s + ", 0)", Check.UNKNOWN, x -> x.worth(s, 0));
        }
        refused(ALL, "worth(nobody, 0)", Check.UNKNOWN, x -> x.worth(next(x), 0));
        for (int cost : new int[] {-1, 1000, MIN, MAX}) {
            refused(ALL, "roster(" + cost + ")", Check.OUTSIDE, x -> x.roster(cost));
        }
    }

    private static void whomAndKnown() {
        for (int thing : new int[] {-1, 4, MIN, MAX}) {
            refused(ALL, "whom(" + thing + ")", Check.UNKNOWN, x -> x.whom(thing));
        }
        refused(EnumSet.of(Scene.OVER), "whom(0), over", Check.STATE, x -> x.whom(0));
        refused(EnumSet.of(Scene.OVER), "whom(3), over", Check.STATE, x -> x.whom(3));
        for (int code : new int[] {-1, 15625, MIN, MAX}) {
            refused(ALL, "known(" + code + ")", Check.OUTSIDE, x -> x.known(code));
        }
        refused(EnumSet.of(Scene.MIDNIGHT), "known(625)", Check.OUTSIDE, x -> x.known(625));
        refused(EnumSet.of(Scene.LATE), "known(5)", Check.OUTSIDE, x -> x.known(5));
        refused(EnumSet.of(Scene.OVER), "known(1)", Check.OUTSIDE, x -> x.known(1));
    }

    private static void ruled() {
        refused(WITHOUT_RULE, "byRule(0), no rule", Check.STATE, x -> x.byRule(0));
        refused(WITHOUT_RULE, "byRule(1), no rule", Check.STATE, x -> x.byRule(1));
        refused(WITHOUT_RULE, "seen(0), no rule", Check.STATE, x -> x.seen(0));
        refused(WITHOUT_RULE, "sure(0, 5), no rule", Check.STATE, x -> x.sure(0, 5));
        refused(WITHOUT_RULE, "night(0, 1), no rule", Check.NONE, x -> x.night(0, 1));
        refused(EnumSet.of(Scene.NO_RULE), "seen(1), no rule", Check.STATE, x -> x.seen(1));
    }

    private static void morning() {
        for (int set : new int[] {-1, 128, MIN, MAX, MIN + 1, 1 << 30}) {
            refused(ALL, "seen(" + set + ")", Check.OUTSIDE, x -> x.seen(set));
            refused(ALL, "sure(" + set + ", 0)", Check.OUTSIDE, x -> x.sure(set, 0));
            refused(ALL, "sure(" + set + ", 6)", Check.OUTSIDE, x -> x.sure(set, 6));
        }
        refused(ALL, "seen(nobody)", Check.OUTSIDE, x -> x.seen(1 << next(x)));
        refused(ALL, "sure(nobody, 0)", Check.OUTSIDE, x -> x.sure(1 << next(x), 0));
        refused(ALL, "sure(nobody, -1)", Check.OUTSIDE, x -> x.sure(1 << next(x), -1));
        refused(WITH_BEDS, "seen(a nurse)", Check.OUTSIDE, x -> x.seen(1 << Scene.NURSE));
        refused(WITH_BEDS, "seen(all)", Check.OUTSIDE, x -> x.seen((1 << next(x)) - 1));
        refused(WITH_BEDS, "sure(a nurse, 0)", Check.OUTSIDE, x -> x.sure(1 << Scene.NURSE, 0));
        refused(WITH_BEDS, "sure(a nurse, 6)", Check.OUTSIDE, x -> x.sure(1 << Scene.NURSE, 6));
        for (int hour : new int[] {-1, 6, MIN, MAX}) {
            refused(ALL, "sure(0, " + hour + ")", Check.UNKNOWN, x -> x.sure(0, hour));
        }
        for (int wrong : new int[] {-1, 3, MIN, MAX}) {
            refused(ALL, "night(0, " + wrong + ")", Check.OUTSIDE, x -> x.night(0, wrong));
            int seed = Math.min(wrong, -1);
            for (int what = 0; what < 3; what++) {
                int told = what;
                refused(ALL, "night(" + seed + ", " + what + ")", Check.OUTSIDE, x -> x.night(seed, told));
            }
        }
    }

    private static void ofAll() {
        Set<Scene> noImage = EnumSet.of(Scene.NEW, Scene.NO_RULE, Scene.OUTGROWN);
        refused(noImage, "restore()", Check.STATE, x -> x.restore());
        for (int what : new int[] {-1, 8, MIN, MAX}) {
            refused(ALL, "count(" + what + ")", Check.OUTSIDE, x -> x.count(what));
        }
    }
}
