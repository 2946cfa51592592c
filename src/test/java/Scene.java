/** States that an object may be in, each made anew by the same calls. */
enum Scene {
    /** Nothing was called yet. */
    NEW,
    /** Three beds, a bell, a rule, a few letters, an image. */
    HOUSE,
    /** As HOUSE, but neither rule nor image. */
    NO_RULE,
    /** Seven beds, a page of 55 letters, a rule of all, an image. */
    CROWDED,
    /** CROWDED in hour 2, some were woken; the image is of hour 1. */
    MIDNIGHT,
    /** CROWDED in hour 5, an early one was not woken. */
    LATE,
    /** CROWDED when the night is over. */
    OVER,
    /** CROWDED in the evening behind a night. */
    NEXT_NIGHT,
    /** Six beds, then an image, then a seventh. */
    OUTGROWN;

    /** In all scenes with beds: 0 a sleeper, 1 a nurse, 2 an early one; then an old one, a heavy one, two sleepers. */
    static final int NURSE = 1, EARLY = 2;
    private static final int[] KINDS = {0, 1, 3, 4, 2, 0, 0};

    WokenOnce make() {
        WokenOnce x = new WokenOnce();
        switch (this) {
            case NEW:
                break;
            case HOUSE:
                beds(x, 0, 3);
                texts(x, "20+2", "a1/-");
                x.image();
                break;
            case NO_RULE:
                beds(x, 0, 3);
                texts(x, "", "0+1");
                break;
            case OUTGROWN:
                beds(x, 0, 6);
                texts(x, "543210+1", "-");
                x.image();
                beds(x, 6, 7);
                break;
            default:
                crowded(x);
                pass(x);
        }
        return x;
    }

    private static void beds(WokenOnce x, int from, int to) {
        for (int s = from; s < to; s++) {
            Check.bed(x, KINDS[s], 3 + 7 * s, 12 + 11 * s, 80 - 9 * s, s % 2 == 0 ? 33 : 0, 20);
        }
        x.harm(1, 70);
    }

    private static void texts(WokenOnce x, String rule, String page) {
        Check.ring(x, "a3b2/c4/-/a1d9/b5/a2b2c2d2");
        if (!rule.isEmpty()) {
            Check.hang(x, rule);
        }
        Check.write(x, page);
    }

    private static void crowded(WokenOnce x) {
        beds(x, 0, 7);
        texts(x, "6012345+2", "-/".repeat(27) + "-");
        x.image();
    }

    private void pass(WokenOnce x) {
        if (this == CROWDED) {
            return;
        }
        x.come(0, 1 | 1 << NURSE);
        if (this == MIDNIGHT) {
            x.image();
        }
        x.come(Check.NONE, 0);
        int till = this == MIDNIGHT ? 2 : this == LATE ? 5 : 6;
        for (int hour = 2; hour < till; hour++) {
            x.come(hour - 2, hour == 3 ? 1 << 4 : 0);
        }
        if (this == NEXT_NIGHT) {
            x.evening();
        }
    }
}
