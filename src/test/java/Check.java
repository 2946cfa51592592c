/** Compares answers with those that are due, and ends a test with exit code 1 if one was not. */
final class Check {
    static final int NONE = -1, UNKNOWN = -101, OUTSIDE = -102, STATE = -103, FULL = -104;

    private static int compared = 0;
    private static int wrong = 0;

    private Check() {
    }

    static void due(String what, long got, long want) {
        compared++;
        if (got != want) {
            wrong++;
            if (wrong <= 40) {
                System.out.println(what + " answered " + got + ", due is " + want);
            }
        }
    }

    static void holds(String what, boolean it) {
        due(what, it ? 1 : 0, 1);
    }

    static void end(String test) {
        System.out.println(test + ": " + compared + " answers, " + wrong + " not as due");
        if (wrong != 0 || compared == 0) {
            System.exit(1);
        }
    }

    /** The letters of a text, eight at most, as letters() takes them. */
    static long packed(String text) {
        long w = 0;
        for (int i = 0; i < text.length(); i++) {
            w |= (long) text.charAt(i) << (8 * i);
        }
        return w;
    }

    /** The page holds just this text then. */
    static void write(WokenOnce x, String text) {
        x.blank();
        for (int from = 0; from < text.length(); from += 8) {
            x.letters(packed(text.substring(from, Math.min(text.length(), from + 8))));
        }
        due("letters of the page " + text, x.count(5), text.length());
    }

    static void ring(WokenOnce x, String text) {
        write(x, text);
        holds("the bell " + text + " is read", x.bell() >= 0);
    }

    static void hang(WokenOnce x, String text) {
        write(x, text);
        holds("the rule " + text + " is read", x.rule() >= 1);
    }

    /** A sleeper with what he mends of the things 0 to 3. */
    static int bed(WokenOnce x, int kind, int cost, int... mends) {
        int s = x.sleeper(kind, cost);
        for (int thing = 0; thing < mends.length; thing++) {
            x.skill(s, thing, mends[thing]);
        }
        return s;
    }

    /** The call was refused as due and changed nothing that is told. */
    static void refused(WokenOnce x, String call, long before, long got, long want) {
        due(call, got, want);
        due("digest behind the refused " + call, x.digest(), before);
    }
}
