import java.util.function.Supplier;
import java.util.function.ToLongFunction;

/**
 * Each refusal of each call by its own number, in the document's order where two of them fit, in each of some states;
 * and that a refused call changes nothing: an object that refused and its twin that was not asked tell the same to
 * their end.
 */
final class RefusalTest {
    private static final int UNKNOWN = -1, OUTSIDE = -2, STATE = -3, FULL = -4, NO = -5;
    private static final long LOST = -1000000000000000000L;

    private final Due due;
    private final String state;
    private final Supplier<KnitChronicle> make;

    private RefusalTest(Due due, String state, Supplier<KnitChronicle> make) {
        this.due = due;
        this.state = state;
        this.make = make;
    }

    public static void main(String[] args) {
        Due due = new Due("RefusalTest");
        RefusalTest[] states = {
            new RefusalTest(due, "new", KnitChronicle::new),
            new RefusalTest(due, "in the middle", RefusalTest::middle),
            new RefusalTest(due, "full", RefusalTest::full),
            new RefusalTest(due, "full, and all can be done", RefusalTest::fullAndGood),
        };
        for (RefusalTest in : states) {
            in.unknown();
            in.outside();
            in.outsideAheadOfOthers();
        }
        states[0].stateOfImages();
        states[1].no();
        states[1].stateOfTheSecondImage();
        states[1].stateOfHoles();
        states[2].no();
        states[2].whenFull();
        states[2].stateOfMoths();
        states[3].whenFull();
        states[3].stateOfHoles();
        due.end();
    }

    /** Five STITCHES, the second eaten, an image, a sight, and weeks whose second act can not be. */
    private static KnitChronicle middle() {
        KnitChronicle x = Pads.hung(-1, 0, 1, -1);
        Pads.does(x, "*B");
        x.knitter(1, 3);
        x.image(0);
        x.stitch(3, 3, 3);
        x.seen(4, false);
        Pads.write(x, "a0-X");
        return x;
    }

    /** A chain of 24, 8 sights that none fits, 60 signs with a fault, both images. */
    private static KnitChronicle full() {
        KnitChronicle x = new KnitChronicle();
        x.image(1);
        for (int i = 0; i < 24; i++) {
            x.stitch(i % 4, i % 10, i - 1);
        }
        x.image(0);
        for (int i = 0; i < 8; i++) {
            x.seen(i, i % 2 == 0);
        }
        Pads.write(x, "-".repeat(60));
        return x;
    }

    /** 24 alone, one eaten, 8 sights that one fits, 60 signs of acts that can be, both images. */
    private static KnitChronicle fullAndGood() {
        KnitChronicle x = Pads.alone(24);
        Pads.does(x, "*X");
        x.image(0);
        x.image(1);
        for (int i = 0; i < 8; i++) {
            x.seen(i, false);
        }
        Pads.write(x, "*A+Ad".repeat(12));
        return x;
    }

    private void refused(String call, ToLongFunction<KnitChronicle> asked, long want) {
        KnitChronicle x = make.get();
        KnitChronicle twin = make.get();
        due.is(state + ": " + call, asked.applyAsLong(x), want);
        due.same(state + ": after " + call, Pads.usedUp(x), Pads.usedUp(twin));
    }

    private void unknown() {
        int n = make.get().told(1);
        refused("stitch on one behind the last", x -> x.stitch(0, 0, n), UNKNOWN);
        refused("stitch on -2", x -> x.stitch(0, 0, -2), UNKNOWN);
        refused("stitch on -2, outside too", x -> x.stitch(4, -1, -2), UNKNOWN);
        refused("stitch behind the last, outside too", x -> x.stitch(-1, 10, n), UNKNOWN);
        refused("knitter 4", x -> x.knitter(4, 0), UNKNOWN);
        refused("knitter -1", x -> x.knitter(-1, 9), UNKNOWN);
        refused("knitter 4, outside too", x -> x.knitter(4, 10), UNKNOWN);
        refused("pull behind the last", x -> x.pull(n), UNKNOWN);
        refused("pull -1", x -> x.pull(-1), UNKNOWN);
        refused("pulls gone", x -> x.pulls(1 << n, 0, 0), UNKNOWN);
        refused("pulls stay", x -> x.pulls(0, 1 << n, 1), UNKNOWN);
        refused("pulls gone, outside too", x -> x.pulls(1 << n, 0, 2), UNKNOWN);
        refused("pulls stay, outside too", x -> x.pulls(0, 1 << n, -1), UNKNOWN);
        refused("hole behind the last", x -> x.hole(n), UNKNOWN);
        refused("hole -1", x -> x.hole(-1), UNKNOWN);
        refused("who behind the last", x -> x.who(n), UNKNOWN);
        refused("who -1", x -> x.who(-1), UNKNOWN);
        refused("moths", x -> x.moths(1 << n, 1, 0), LOST + UNKNOWN);
        refused("moths, outside too", x -> x.moths(1 << n, 11, 2), LOST + UNKNOWN);
        refused("moths of all bits", x -> x.moths(-1, 0, 1), LOST + UNKNOWN);
    }

    private void outside() {
        int[] wrong = {-1, Integer.MIN_VALUE, Integer.MAX_VALUE, 10000};
        for (int w : wrong) {
            refused("stitch colour " + w, x -> x.stitch(w, 0, -1), OUTSIDE);
            refused("stitch tight " + w, x -> x.stitch(0, w, -1), OUTSIDE);
            refused("knitter tight " + w, x -> x.knitter(0, w), OUTSIDE);
            refused("say " + w, x -> x.say(w), OUTSIDE);
            refused("pulls what " + w, x -> x.pulls(0, 0, w), OUTSIDE);
            refused("rip " + w, x -> x.rip(w), OUTSIDE);
            refused("hold k " + w, x -> x.hold(w, 0), OUTSIDE);
            refused("hold what " + w, x -> x.hold(1, w), OUTSIDE);
            refused("seen " + w, x -> x.seen(w, true), OUTSIDE);
            refused("next " + w, x -> x.next(w), OUTSIDE);
            refused("moths t " + w, x -> x.moths(0, w, 0), LOST + OUTSIDE);
            refused("moths part " + w, x -> x.moths(0, 1, w), LOST + OUTSIDE);
            refused("year seed " + w, x -> x.year(w, 1, 0), OUTSIDE);
            refused("year m " + w, x -> x.year(0, w, 0), OUTSIDE);
            refused("year what " + w, x -> x.year(0, 1, w), OUTSIDE);
            refused("image " + w, x -> x.image(w), OUTSIDE);
            refused("restore " + w, x -> x.restore(w), OUTSIDE);
            refused("told " + w, x -> x.told(w), OUTSIDE);
        }
    }

    /** In the states with a fault, or with weeks that can not be, these are outside and NO; some are unknown as well. */
    private void outsideAheadOfOthers() {
        refused("judge -1", x -> x.judge(-1), OUTSIDE);
        refused("judge 2", x -> x.judge(2), OUTSIDE);
        refused("behind -1", x -> x.behind(-1), OUTSIDE);
        refused("behind 4", x -> x.behind(4), OUTSIDE);
        refused("of -1 -1", x -> x.of(-1, -1), OUTSIDE);
        refused("of 24 3", x -> x.of(24, 3), OUTSIDE);
        refused("of 0 3", x -> x.of(0, 3), OUTSIDE);
        refused("say 32", x -> x.say(32), OUTSIDE);
        refused("say 127", x -> x.say(127), OUTSIDE);
        refused("seen 10", x -> x.seen(10, false), OUTSIDE);
        refused("next 2", x -> x.next(2), OUTSIDE);
        refused("rip 2", x -> x.rip(2), OUTSIDE);
        refused("restore 2", x -> x.restore(2), OUTSIDE);
        refused("image 2", x -> x.image(2), OUTSIDE);
        refused("told 5", x -> x.told(5), OUTSIDE);
        refused("told 2500", x -> x.told(2500), OUTSIDE);
    }

    private void no() {
        refused("done", x -> x.done(), NO);
        for (int what = 0; what < 4; what++) {
            int w = what;
            refused("behind " + w, x -> x.behind(w), NO);
        }
        for (int what = 0; what < 3; what++) {
            int w = what;
            refused("of 0 " + w, x -> x.of(0, w), NO);
            refused("of 24, unknown too, " + w, x -> x.of(24, w), NO);
            refused("of -1, unknown too, " + w, x -> x.of(-1, w), NO);
        }
        if (make.get().fault() >= 0) {
            refused("judge 0", x -> x.judge(0), NO);
            refused("judge 1", x -> x.judge(1), NO);
        }
    }

    private void stateOfImages() {
        for (int image = 0; image < 2; image++) {
            int n = image;
            refused("rip " + n, x -> x.rip(n), STATE);
            refused("restore " + n, x -> x.restore(n), STATE);
        }
    }

    private void stateOfTheSecondImage() {
        refused("rip 1", x -> x.rip(1), STATE);
        refused("restore 1", x -> x.restore(1), STATE);
    }

    private void stateOfHoles() {
        refused("hole 0", x -> x.hole(0), STATE);
        refused("hole 2", x -> x.hole(2), STATE);
    }

    private void stateOfMoths() {
        refused("19 of them", x -> x.moths(1 << 18, 1, 0), LOST + STATE);
        refused("all 24", x -> x.moths(Pads.ALL, 10, 1), LOST + STATE);
        refused("outside too, t", x -> x.moths(1 << 18, 11, 0), LOST + OUTSIDE);
        refused("outside too, part", x -> x.moths(1 << 18, 1, 2), LOST + OUTSIDE);
        refused("unknown too", x -> x.moths(3 << 23, 1, 0), LOST + UNKNOWN);
    }

    private void whenFull() {
        refused("stitch", x -> x.stitch(0, 0, -1), FULL);
        refused("stitch on the last", x -> x.stitch(3, 9, 23), FULL);
        refused("stitch, unknown too", x -> x.stitch(0, 0, 24), UNKNOWN);
        refused("stitch, outside too, colour", x -> x.stitch(4, 0, 23), OUTSIDE);
        refused("stitch, outside too, tight", x -> x.stitch(0, 10, -1), OUTSIDE);
        refused("stitch, all three", x -> x.stitch(4, 10, 24), UNKNOWN);
        refused("say", x -> x.say('a'), FULL);
        refused("say the least", x -> x.say(33), FULL);
        refused("say the greatest", x -> x.say(126), FULL);
        refused("seen", x -> x.seen(9, true), FULL);
        refused("not seen", x -> x.seen(0, false), FULL);
    }
}
