import java.util.List;
import java.util.function.ToLongFunction;

/** What is only asked changes nothing, and what is changed is told by the very next call, whatever was asked before. */
public final class AskingTest {
    private static final List<ToLongFunction<WokenOnce>> ASKED = List.of(
        x -> x.fault(0), x -> x.fault(1), x -> x.tenths(0, 0), x -> x.about(0, 3), x -> x.as(0, 0),
        x -> x.best(0), x -> x.whom(1), x -> x.worst(), x -> x.known(0), x -> x.byRule(1), x -> x.worth(0, 0),
        x -> x.roster(40), x -> x.seen(1), x -> x.sure(1, 3), x -> x.night(7, 0), x -> x.night(7, 1),
        x -> x.night(7, 2), x -> x.count(4), x -> x.digest(), x -> x.letters(0L));
    private static final List<ToLongFunction<WokenOnce>> CHANGES = List.of(
        x -> x.letters(97L), x -> x.blank(), x -> text(x, "d1/-/b9/-/-/a5b5").bell(), x -> text(x, "20+1").rule(),
        x -> x.sleeper(0, 7), x -> x.sleeper(1, 1), x -> x.skill(0, 0, 77), x -> x.skill(2, 3, 1),
        x -> x.skill(1, 1, 8), x -> x.harm(0, 9), x -> x.harm(3, 99), x -> x.come(Check.NONE, 0), x -> x.come(0, 0),
        x -> x.come(1, 4), x -> x.come(2, 3), x -> x.evening(), x -> x.image(), x -> x.restore());

    public static void main(String[] args) {
        askedChangesNothing();
        changedIsTold();
        changedTwice();
        Check.end("AskingTest");
    }

    private static WokenOnce text(WokenOnce x, String text) {
        Check.write(x, text);
        return x;
    }

    private static void askAll(WokenOnce x) {
        for (ToLongFunction<WokenOnce> call : ASKED) {
            call.applyAsLong(x);
        }
    }

    private static void askedChangesNothing() {
        for (Scene scene : Scene.values()) {
            List<Long> due = Told.by(scene.make());
            for (int first = 0; first < ASKED.size(); first++) {
                WokenOnce x = scene.make();
                long answer = ASKED.get(first).applyAsLong(x);
                askAll(x);
                Check.due("asked again, call " + first + " in " + scene, ASKED.get(first).applyAsLong(x), answer);
                Check.holds("asked first, call " + first + " in " + scene, Told.by(x).equals(due));
            }
        }
    }

    private static void changedIsTold() {
        for (Scene scene : Scene.values()) {
            for (int change = 0; change < CHANGES.size(); change++) {
                WokenOnce x = scene.make();
                WokenOnce y = scene.make();
                askAll(x);
                long answer = CHANGES.get(change).applyAsLong(y);
                Check.due("change " + change + " in " + scene, CHANGES.get(change).applyAsLong(x), answer);
                Check.holds("told behind change " + change + " in " + scene, Told.by(x).equals(Told.by(y)));
            }
        }
    }

    /** What was asked between two changes is as little in the way. */
    private static void changedTwice() {
        for (ToLongFunction<WokenOnce> first : CHANGES) {
            for (ToLongFunction<WokenOnce> second : CHANGES) {
                WokenOnce x = Scene.MIDNIGHT.make();
                WokenOnce y = Scene.MIDNIGHT.make();
                first.applyAsLong(x);
                askAll(x);
                first.applyAsLong(y);
                Check.due("the second change", second.applyAsLong(x), second.applyAsLong(y));
                Check.holds("told behind both", Told.by(x).equals(Told.by(y)));
            }
        }
    }
}
