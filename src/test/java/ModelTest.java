import java.util.Random;

/** All promises: long runs of calls, fit and unfit ones, on the class and on the slow model side by side. */
public final class ModelTest {
    private static final int[] WILD = {-1, -2, 7, 8, 100, 127, 128, 1000, Integer.MIN_VALUE, Integer.MAX_VALUE};

    private final Random random;
    private final WokenOnce x = new WokenOnce();
    private final Model model = new Model();
    private final String run;
    private final int firstKind;
    private int made = 0;

    private ModelTest(int seed) {
        random = new Random(seed);
        run = "run " + seed + ": ";
        firstKind = seed / 5;
    }

    public static void main(String[] args) {
        for (int seed = 0; seed < 240; seed++) {
            int beds = seed % 12 == 0 ? 7 : seed % 5;
            new ModelTest(seed).play(beds, beds == 7 ? 60 : 250);
        }
        for (int seed = 1000; seed < 1024; seed++) {
            new ModelTest(seed).playTill512thCall(1 + seed % 4);
        }
        Check.end("ModelTest");
    }

    private void play(int beds, int calls) {
        begin(beds);
        for (int i = 0; i < calls; i++) {
            call(random.nextInt(40), beds);
        }
        same("digest at the end", x.digest(), model.digest());
    }

    /** "An object is used for at most 512 calls after it has been made" */
    private void playTill512thCall(int beds) {
        begin(beds);
        while (made < 490) {
            call(random.nextInt(40), beds);
        }
        while (made < 511) {
            same("night", x.night(made, made % 2), model.night(made, made % 2));
        }
        same("digest as the 512th call", x.digest(), model.digest());
        Check.due(run + "calls", made, 512);
    }

    private void begin(int beds) {
        for (int s = 0; s < beds; s++) {
            int kind = (firstKind + s) % 5;
            same("sleeper", x.sleeper(kind, s * 9), model.sleeper(kind, s * 9));
            for (int thing = 0; thing < 4; thing++) {
                int v = some();
                same("skill", x.skill(s, thing, v), model.skill(s, thing, v));
            }
        }
        text(bellText());
        same("bell", x.bell(), model.bell());
        if (random.nextInt(6) > 0) {
            text(ruleText());
            same("rule", x.rule(), model.rule());
        }
    }

    private void same(String call, long got, long want) {
        made++;
        Check.due(run + call, got, want);
    }

    private int pick(int below) {
        return random.nextInt(9) == 0 ? WILD[random.nextInt(WILD.length)] : random.nextInt(below + 1);
    }

    /** Numbers that are often alike, so that there are like choices. */
    private int some() {
        return random.nextBoolean() ? random.nextInt(100) : 10 * random.nextInt(5);
    }

    private int set() {
        int set = random.nextInt(5) == 0 ? 0 : 1 << random.nextInt(7);
        return random.nextBoolean() ? set : set | 1 << random.nextInt(7);
    }

    private String bellText() {
        StringBuilder text = new StringBuilder();
        for (int hour = 0; hour < 6; hour++) {
            int rest = 10;
            int from = text.append(hour == 0 ? "" : "/").length();
            for (int thing = 0; thing < 4 && rest > 0; thing++) {
                if (random.nextInt(5) < 2) {
                    int chance = random.nextInt(5) == 0 ? Math.min(9, rest) : 1 + random.nextInt(Math.min(9, rest));
                    text.append((char) ('a' + thing)).append(chance);
                    rest -= chance;
                }
            }
            text.append(text.length() == from ? "-" : "");
        }
        return text.toString();
    }

    private String ruleText() {
        StringBuilder text = new StringBuilder();
        for (int s = 0; s < model.count(0); s++) {
            if (random.nextInt(3) > 0) {
                text.insert(random.nextInt(text.length() + 1), s);
            }
        }
        return text.append("+").append(random.nextInt(7)).toString();
    }

    private String spoilt(String text) {
        if (text.isEmpty() || random.nextInt(3) > 0) {
            return text;
        }
        int at = random.nextInt(text.length());
        String signs = "abcd0123456789+-/e~";
        char sign = signs.charAt(random.nextInt(signs.length()));
        switch (random.nextInt(3)) {
            case 0: return text.substring(0, at);
            case 1: return text.substring(0, at) + sign + text.substring(at + 1);
            default: return text.substring(0, at) + sign + text.substring(at);
        }
    }

    private void text(String text) {
        same("blank", x.blank(), model.blank());
        for (int from = 0; from < text.length(); from += 8) {
            long w = Check.packed(text.substring(from, Math.min(text.length(), from + 8)));
            same("letters", x.letters(w), model.letters(w));
        }
    }

    private void call(int which, int beds) {
        if (which < 8) {
            texts(which);
        } else if (which < 14) {
            sleepers(which, beds);
        } else if (which < 24) {
            nights(which);
        } else if (which < 32) {
            plans(which);
        } else {
            rest(which, beds);
        }
    }

    private void texts(int which) {
        switch (which) {
            case 0:
                text(spoilt(bellText()));
                same("fault(0)", x.fault(0), model.fault(0));
                same("bell", x.bell(), model.bell());
                break;
            case 1:
                text(spoilt(ruleText()));
                same("fault(1)", x.fault(1), model.fault(1));
                same("rule", x.rule(), model.rule());
                break;
            case 2:
            case 3:
                long w = random.nextBoolean() ? random.nextLong() & 0x7f7f7f7f7f7f7f7fL : random.nextInt(1 << 15);
                same("letters " + w, x.letters(w), model.letters(w));
                break;
            case 4:
                same("blank", x.blank(), model.blank());
                break;
            case 5:
                int hour = pick(6);
                int thing = pick(4);
                same("tenths", x.tenths(hour, thing), model.tenths(hour, thing));
                break;
            default:
                int sort = pick(2);
                same("fault " + sort, x.fault(sort), model.fault(sort));
        }
    }

    private void sleepers(int which, int beds) {
        int s = pick(Math.max(beds, 1));
        int thing = pick(4);
        int what = random.nextBoolean() ? pick(4) : 9 + pick(5);
        switch (which) {
            case 8:
                int kind = pick(5);
                int v = random.nextInt(12) == 0 ? pick(99) : -1;
                same("sleeper " + kind, x.sleeper(kind, v), model.sleeper(kind, v));
                break;
            case 9:
                int mends = random.nextInt(8) == 0 ? pick(99) : some();
                same("skill", x.skill(s, thing, mends), model.skill(s, thing, mends));
                break;
            case 10:
                int harm = random.nextInt(8) == 0 ? pick(99) : some();
                same("harm", x.harm(thing, harm), model.harm(thing, harm));
                break;
            case 11:
                int as = pick(5);
                same("as", x.as(s, as), model.as(s, as));
                break;
            default:
                same("about " + s + " " + what, x.about(s, what), model.about(s, what));
        }
    }

    private void nights(int which) {
        switch (which) {
            case 14:
                same("evening", x.evening(), model.evening());
                break;
            case 15:
                same("come(-1, 0)", x.come(-1, 0), model.come(-1, 0));
                break;
            case 16:
                int whatever = pick(4);
                int wild = pick(200);
                same("come " + whatever + " " + wild, x.come(whatever, wild), model.come(whatever, wild));
                break;
            case 17:
                same("image", x.image(), model.image());
                break;
            case 18:
                same("restore", x.restore(), model.restore());
                break;
            default:
                int thing = pick(4);
                int set = set();
                same("come " + thing + " " + set, x.come(thing, set), model.come(thing, set));
        }
    }

    private void plans(int which) {
        int part = pick(1);
        int thing = pick(4);
        switch (which) {
            case 24:
                same("best", x.best(part), model.best(part));
                break;
            case 25:
            case 26:
                same("whom " + thing, x.whom(thing), model.whom(thing));
                break;
            case 27:
                same("worst", x.worst(), model.worst());
                break;
            case 28:
                int code = random.nextInt((int) Math.pow(5, 1 + random.nextInt(6)) + 1);
                same("known " + code, x.known(code), model.known(code));
                int wild = pick(15625);
                same("known " + wild, x.known(wild), model.known(wild));
                break;
            case 29:
                same("byRule", x.byRule(part), model.byRule(part));
                break;
            case 30:
                int s = pick(5);
                same("worth " + s, x.worth(s, part), model.worth(s, part));
                break;
            default:
                int cost = random.nextInt(5) == 0 ? pick(999) : random.nextInt(100);
                same("roster " + cost, x.roster(cost), model.roster(cost));
        }
    }

    private void rest(int which, int beds) {
        int set = random.nextInt(6) == 0 ? pick(255) : random.nextInt(1 << beds);
        int hour = pick(5);
        switch (which) {
            case 32:
                same("seen " + set, x.seen(set), model.seen(set));
                break;
            case 33:
            case 34:
                same("sure " + set + " " + hour, x.sure(set, hour), model.sure(set, hour));
                break;
            case 35:
            case 36:
                int seed = random.nextInt(9) == 0 ? pick(5) : random.nextInt(Integer.MAX_VALUE);
                int what = pick(2);
                same("night " + seed + " " + what, x.night(seed, what), model.night(seed, what));
                break;
            case 37:
            case 38:
                int count = pick(8);
                same("count " + count, x.count(count), model.count(count));
                break;
            default:
                same("digest", x.digest(), model.digest());
        }
    }
}
