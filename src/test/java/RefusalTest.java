import java.util.ArrayList;
import java.util.List;

/** Each refused call, in each of some states, answers its refusal and changes nothing that can be told. */
final class RefusalTest {
    private static final Due due = new Due("RefusalTest");
    private static final int UNKNOWN = -1, OUTSIDE = -2, STATE = -3, FULL = -4, NO = -5;
    private static final long LOST = -1000000000000000000L;

    public static void main(String[] args) {
        for (KnitChronicle x : states()) {
            unknown(x);
            outside(x);
            others(x);
        }
        due.end();
    }

    /** A new object, one in the middle of things, one that is full, each with a pad of another kind. */
    private static List<KnitChronicle> states() {
        KnitChronicle middle = Pads.hung(-1, 0, 1, -1);
        Pads.does(middle, "*B");
        middle.knitter(1, 3);
        middle.image(1);
        middle.stitch(3, 3, 3);
        middle.seen(4, false);
        Pads.write(middle, "a0-X");
        KnitChronicle full = new KnitChronicle();
        for (int i = 0; i < 24; i++) {
            full.stitch(i % 4, i % 10, i - 1);
        }
        for (int i = 0; i < 8; i++) {
            full.seen(i, false);
        }
        for (int i = 0; i < 60; i++) {
            full.say('-');
        }
        return List.of(new KnitChronicle(), middle, full);
    }

    private static void refused(KnitChronicle x, String before, String call, long got, long want) {
        due.is(call, got, want);
        due.holds(call + " changes nothing", Pads.all(x).equals(before));
    }

    private static void unknown(KnitChronicle x) {
        String s = Pads.all(x);
        int n = x.told(1);
        refused(x, s, "stitch on n", x.stitch(0, 0, n), UNKNOWN);
        refused(x, s, "stitch on -2, outside too", x.stitch(9, -1, -2), UNKNOWN);
        refused(x, s, "knitter 4", x.knitter(4, 0), UNKNOWN);
        refused(x, s, "knitter -1, outside too", x.knitter(-1, 10), UNKNOWN);
        refused(x, s, "pull n", x.pull(n), UNKNOWN);
        refused(x, s, "pulls n", x.pulls(1 << n, 0, 0), UNKNOWN);
        refused(x, s, "pulls n to stay, outside too", x.pulls(0, 1 << n, 7), UNKNOWN);
        refused(x, s, "hole n", x.hole(n), UNKNOWN);
        refused(x, s, "who n", x.who(n), UNKNOWN);
        refused(x, s, "moths n", x.moths(1 << n, 1, 0), LOST + UNKNOWN);
        refused(x, s, "moths n, outside too", x.moths(-1, 11, 2), LOST + UNKNOWN);
    }

    private static void outside(KnitChronicle x) {
        String s = Pads.all(x);
        int[] wrong = {-1, Integer.MIN_VALUE, Integer.MAX_VALUE, 10000};
        for (int w : wrong) {
            refused(x, s, "stitch colour", x.stitch(w, 0, -1), OUTSIDE);
            refused(x, s, "stitch tight", x.stitch(0, w, -1), OUTSIDE);
            refused(x, s, "knitter tight", x.knitter(0, w), OUTSIDE);
            refused(x, s, "say", x.say(w), OUTSIDE);
            refused(x, s, "judge", x.judge(w), OUTSIDE);
            refused(x, s, "behind", x.behind(w), OUTSIDE);
            refused(x, s, "of, unknown or no too", x.of(w, w), OUTSIDE);
            refused(x, s, "pulls", x.pulls(0, 0, w), OUTSIDE);
            refused(x, s, "rip", x.rip(w), OUTSIDE);
            refused(x, s, "hold k", x.hold(w, 0), OUTSIDE);
            refused(x, s, "hold what", x.hold(1, w), OUTSIDE);
            refused(x, s, "seen", x.seen(w, true), OUTSIDE);
            refused(x, s, "next", x.next(w), OUTSIDE);
            refused(x, s, "moths t", x.moths(0, w, 0), LOST + OUTSIDE);
            refused(x, s, "moths part", x.moths(0, 1, w), LOST + OUTSIDE);
            refused(x, s, "year seed", x.year(w, 1, 0), OUTSIDE);
            refused(x, s, "year m", x.year(0, w, 0), OUTSIDE);
            refused(x, s, "year what", x.year(0, 1, w), OUTSIDE);
            refused(x, s, "image", x.image(w), OUTSIDE);
            refused(x, s, "restore", x.restore(w), OUTSIDE);
            refused(x, s, "told", x.told(w), OUTSIDE);
        }
    }

    private static void others(KnitChronicle x) {
        String s = Pads.all(x);
        refused(x, s, "image 0 was not kept", x.restore(0), STATE);
        refused(x, s, "no rip of image 0", x.rip(0), STATE);
        if (x.told(1) > 0) {
            refused(x, s, "hole 0 is not eaten", x.hole(0), STATE);
        }
        if (x.told(0) > 0) {
            refused(x, s, "done", x.done(), NO);
            refused(x, s, "behind", x.behind(0), NO);
            refused(x, s, "of, unknown too", x.of(99, 0), NO);
        }
        if (x.told(1) == 24) {
            refused(x, s, "stitch", x.stitch(0, 0, 23), FULL);
            refused(x, s, "say", x.say('a'), FULL);
            refused(x, s, "seen", x.seen(9, true), FULL);
            refused(x, s, "judge", x.judge(1), NO);
            refused(x, s, "moths", x.moths(1 << 18, 1, 0), LOST + STATE);
        }
    }
}
