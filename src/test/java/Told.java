import java.util.ArrayList;
import java.util.List;

/**
 * All that an object tells, as numbers: two objects that tell alike are in the same state.
 * The image is told by going back to it, so the object is spent then.
 */
final class Told {
    private static final int[] CODES = {0, 1, 7, 31, 194, 3124, 15624};
    private static final int[] COSTS = {0, 25, 100, 999};
    private static final int[] SEEDS = {0, 1, 65537, Integer.MAX_VALUE};

    private final WokenOnce x;
    private final List<Long> numbers = new ArrayList<>();

    private Told(WokenOnce x) {
        this.x = x;
    }

    static List<Long> by(WokenOnce x) {
        Told told = new Told(x);
        told.now();
        told.tell(x.restore());
        told.house();
        return told.numbers;
    }

    private void tell(long number) {
        numbers.add(number);
    }

    private void house() {
        tell(x.digest());
        for (int s = 0; s < x.count(0); s++) {
            for (int thing = 0; thing < 4; thing++) {
                int skill = x.skill(s, thing, 0);
                x.skill(s, thing, skill);
                tell(skill);
            }
        }
    }

    private void now() {
        house();
        tell(x.fault(0));
        tell(x.fault(1));
        for (int thing = 0; thing < 4; thing++) {
            tell(x.whom(thing));
        }
        for (int code : CODES) {
            tell(x.known(code));
        }
        for (int cost : COSTS) {
            tell(x.roster(cost));
        }
        for (int s = 0; s < x.count(0); s++) {
            tell(x.worth(s, 0));
            tell(x.worth(s, 1));
            for (int hour = 0; hour < 6; hour++) {
                tell(x.sure(1 << s, hour));
            }
            for (int other = 0; other <= s; other++) {
                tell(x.seen(1 << s | 1 << other));
            }
        }
        for (int seed : SEEDS) {
            for (int what = 0; what < 3; what++) {
                tell(x.night(seed, what));
            }
        }
    }
}
