/** Promises 13 and 14, 25 to 27: come, evening, image, restore, count. */
public final class NightTest {
    public static void main(String[] args) {
        come();
        comeWrong();
        comeEarly();
        evening();
        image();
        imageKeepsNoTexts();
        restoreWrong();
        count();
        Check.end("NightTest");
    }

    private static WokenOnce house() {
        WokenOnce x = new WokenOnce();
        Check.bed(x, 0, 0, 30, 10);
        Check.bed(x, 1, 0, 30, 4);
        Check.bed(x, 2, 0, 31, 31);
        Check.bed(x, 3, 0, 60, 1);
        return x;
    }

    private static void come() {
        WokenOnce x = house();
        Check.due("come(0, {0, 1})", x.come(0, 3), 39);
        Check.due("count(1)", x.count(1), 1);
        Check.due("count(2), a nurse is none", x.count(2), 1);
        Check.due("count(3)", x.count(3), 39);
        Check.due("count(4)", x.count(4), 11);
        Check.due("come(1, {1, 2}): half of 31", x.come(1, 6), 19);
        Check.due("come(0, {3}): the harm at most", x.come(0, 8), 50);
        Check.due("count(2)", x.count(2), 3);
        Check.due("count(3)", x.count(3), 108);
        Check.due("count(4)", x.count(4), 42);
        Check.due("nothing comes", x.come(Check.NONE, 0), 0);
        Check.due("count(4), nothing was left", x.count(4), 42);
        Check.due("a thing, nobody woken", x.come(3, 0), 0);
        Check.due("count(4)", x.count(4), 92);
        Check.due("the nurse again", x.come(0, 2), 9);
        Check.due("count(1)", x.count(1), 6);
        long before = x.digest();
        Check.refused(x, "come, the night is over", before, x.come(0, 0), Check.STATE);
        Check.refused(x, "nothing, the night is over", before, x.come(Check.NONE, 0), Check.STATE);
    }

    private static void comeWrong() {
        WokenOnce x = house();
        x.come(0, 1);
        long before = x.digest();
        Check.refused(x, "come(4, 0)", before, x.come(4, 0), Check.UNKNOWN);
        Check.refused(x, "come(-2, 0)", before, x.come(-2, 0), Check.UNKNOWN);
        Check.refused(x, "come(4, -1)", before, x.come(4, -1), Check.UNKNOWN);
        Check.refused(x, "come(0, 16)", before, x.come(0, 16), Check.OUTSIDE);
        Check.refused(x, "come(0, -1)", before, x.come(0, -1), Check.OUTSIDE);
        Check.refused(x, "come(0, three)", before, x.come(0, 14), Check.OUTSIDE);
        Check.refused(x, "OUTSIDE ahead of STATE", before, x.come(Check.NONE, 7), Check.OUTSIDE);
        Check.refused(x, "who was woken", before, x.come(0, 1), Check.STATE);
        Check.refused(x, "one of two was woken", before, x.come(0, 5), Check.STATE);
        Check.refused(x, "nothing, and somebody", before, x.come(Check.NONE, 4), Check.STATE);
        Check.refused(x, "nothing, and the nurse", before, x.come(Check.NONE, 2), Check.STATE);
        Check.due("come(0, {2, 3})", x.come(0, 12), 50);
    }

    private static void comeEarly() {
        WokenOnce x = house();
        for (int hour = 0; hour < 4; hour++) {
            x.come(Check.NONE, 0);
        }
        Check.due("an early one in hour 4", x.come(0, 8), Check.STATE);
        Check.due("another one in hour 4", x.come(1, 4), 31);
        Check.due("an early one in hour 5", x.come(0, 8), Check.STATE);
        x.evening();
        for (int hour = 0; hour < 3; hour++) {
            x.come(Check.NONE, 0);
        }
        Check.due("an early one in hour 3", x.come(0, 8), 50);
    }

    private static void evening() {
        WokenOnce x = house();
        Check.due("evening at once", x.evening(), 0);
        x.come(0, 1);
        Check.due("evening()", x.evening(), 20);
        Check.due("count(1)", x.count(1), 0);
        Check.due("count(2)", x.count(2), 0);
        Check.due("count(3) goes on", x.count(3), 30);
        Check.due("he may be woken again", x.come(0, 1), 30);
        Check.due("evening() of two nights", x.evening(), 40);
        for (int hour = 0; hour < 6; hour++) {
            x.come(3, 0);
        }
        Check.due("evening() behind a whole night", x.evening(), 340);
        Check.due("count(4)", x.count(4), 340);
    }

    private static void image() {
        WokenOnce x = house();
        x.come(0, 1);
        Check.due("image()", x.image(), 1);
        long kept = x.digest();
        x.come(1, 6);
        x.harm(2, 7);
        x.skill(3, 1, 88);
        x.evening();
        x.come(0, 0);
        x.come(0, 0);
        Check.due("restore()", x.restore(), 1);
        Check.due("digest as it was kept", x.digest(), kept);
        Check.due("woken", x.about(0, 2), 1);
        Check.due("not woken", x.about(2, 2), 0);
        Check.due("mended", x.count(3), 30);
        Check.due("left", x.count(4), 20);
        Check.due("harm", x.harm(2, 50), 50);
        Check.due("skill", x.skill(3, 1, 1), 1);
        x.come(Check.NONE, 0);
        Check.due("restore() again", x.restore(), 1);
        x.come(Check.NONE, 0);
        x.come(Check.NONE, 0);
        Check.due("a later image", x.image(), 3);
        x.evening();
        Check.due("the latest is restored", x.restore(), 3);
        for (int hour = 3; hour < 6; hour++) {
            x.come(Check.NONE, 0);
        }
        Check.due("image of a night that is over", x.image(), 6);
        x.evening();
        Check.due("restore()", x.restore(), 6);
    }

    private static void imageKeepsNoTexts() {
        WokenOnce x = house();
        Check.ring(x, "a1/-/-/-/-/-");
        Check.hang(x, "0+1");
        x.image();
        Check.ring(x, "-/b2c2/-/-/-/-");
        Check.hang(x, "12+3");
        x.letters(Check.packed("abc"));
        x.restore();
        Check.due("the page stays", x.count(5), 3);
        Check.due("the bell stays", x.count(6), 2);
        Check.due("tenths(1, 2)", x.tenths(1, 2), 2);
        Check.due("the rule stays", x.count(7), 2);
    }

    private static void restoreWrong() {
        WokenOnce x = house();
        long before = x.digest();
        Check.refused(x, "restore(), none was kept", before, x.restore(), Check.STATE);
        x.image();
        x.sleeper(0, 1);
        x.come(0, 1);
        before = x.digest();
        Check.refused(x, "restore(), sleepers came", before, x.restore(), Check.STATE);
        Check.due("image()", x.image(), 1);
        Check.due("restore()", x.restore(), 1);
        WokenOnce y = new WokenOnce();
        Check.due("restore() of nobody, none kept", y.restore(), Check.STATE);
        y.image();
        y.harm(0, 3);
        Check.due("restore() of nobody", y.restore(), 0);
        Check.due("harm", y.harm(0, 3), 50);
    }

    private static void count() {
        WokenOnce x = new WokenOnce();
        for (int what = 0; what < 8; what++) {
            Check.due("count at first", x.count(what), 0);
        }
        Check.bed(x, 0, 0, 40);
        Check.bed(x, 0, 0, 40);
        Check.bed(x, 0, 0, 40);
        Check.ring(x, "a1b1/-/-/d9/-/-");
        Check.hang(x, "21+0");
        x.letters(Check.packed("hello"));
        x.come(Check.NONE, 0);
        x.come(0, 5);
        x.come(1, 0);
        int[] want = {3, 3, 2, 50, 50, 5, 3, 2};
        for (int what = 0; what < 8; what++) {
            Check.due("count(" + what + ")", x.count(what), want[what]);
        }
        int[] wrong = {-1, 8, Integer.MIN_VALUE, Integer.MAX_VALUE};
        for (int what : wrong) {
            Check.due("count(" + what + ")", x.count(what), Check.OUTSIDE);
        }
    }
}
