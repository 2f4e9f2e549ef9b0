import com.sun.management.ThreadMXBean;
import java.lang.management.ManagementFactory;
import java.util.Random;

/** No call makes an object, and none throws, whatever it is asked; a new object is small. */
final class RoomTest {
    private static final Due due = new Due("RoomTest");
    private static final int[] WILD = {Integer.MIN_VALUE, Integer.MIN_VALUE + 9, -100, -7, -2, -1, 0, 1, 2, 3, 4, 5, 9,
            10, 11, 13, 14, 23, 24, 25, 31, 32, 33, 60, 99, 100, 126, 127, 2399, 2402, 2500, 9999, 10000, 1 << 23, 1 << 24,
            (1 << 24) - 1, Integer.MAX_VALUE - 9, Integer.MAX_VALUE};

    public static void main(String[] args) {
        for (int i = 0; i < 20; i++) {
            callsMake(i);
        }
        due.holds("512 calls make nothing", callsMake(7) < 2000);
        due.holds("an object is small", objectTakes() < 8000);
        for (int seed = 0; seed < 3000; seed++) {
            wild(new Random(seed));
        }
        due.end();
    }

    private static long made() {
        return ((ThreadMXBean) ManagementFactory.getThreadMXBean()).getThreadAllocatedBytes(Thread.currentThread().getId());
    }

    private static long objectTakes() {
        long before = made();
        KnitChronicle x = new KnitChronicle();
        long after = made();
        due.is("a new one's stitches", x.told(1), 0);
        return after - before;
    }

    /** 512 calls, each method often, on a full scarf. */
    private static long callsMake(int seed) {
        KnitChronicle x = new KnitChronicle();
        long before = made();
        int sum = 0;
        for (int i = 0; i < 24; i++) {
            sum += x.stitch(i * seed % 4, i % 10, i % 3 - 1 < i ? i % 3 - 1 : -1);
        }
        x.image(0);
        x.image(1);
        for (int i = 0; i < 17; i++) {
            sum += x.say("*A-B+Ac".charAt(i % 7)) + x.fault() + x.judge(0) + x.behind(i % 4) + x.of(i, 1) + x.pull(i);
            sum += x.pulls(1 << i, 1 << 20, 1) + x.pattern() + x.hole(i) + x.rip(i % 2) + x.hold(1 + i % 9, 1) + x.hands();
            sum += x.who(i) + x.seen(i % 10, i % 2 == 0) + x.tights() + x.next(0) + (int) x.moths(1 << i, i % 10, 1);
            sum += x.year(i, 99, 1) + x.told(4) + x.restore(i % 2) + x.forget() + x.wipe() + x.knitter(i % 4, i % 10);
            sum += x.done() + x.cast() + x.restore(0) + x.told(100 + i);
        }
        long after = made();
        due.holds("something was answered", sum != 0);
        return after - before;
    }

    private static int any(Random draw) {
        return WILD[draw.nextInt(WILD.length)];
    }

    private static void wild(Random draw) {
        KnitChronicle x = new KnitChronicle();
        boolean threw = false;
        try {
            for (int call = 0; call < 300; call++) {
                step(x, draw);
            }
        } catch (Throwable t) {
            t.printStackTrace();
            threw = true;
        }
        due.holds("no wild call throws", !threw);
    }

    private static void step(KnitChronicle x, Random draw) {
        int a = any(draw);
        int b = any(draw);
        int c = any(draw);
        switch (draw.nextInt(27)) {
            case 0: case 1: case 2: x.stitch(a & 3, b & 7, draw.nextBoolean() ? -1 : c); break;
            case 3: x.stitch(a, b, c); break;
            case 4: x.knitter(a, b); break;
            case 5: case 6: x.say(33 + draw.nextInt(94)); break;
            case 7: x.say(a); x.wipe(); break;
            case 8: x.judge(a); x.fault(); break;
            case 9: Pads.write(x, "*Aa0+Ad-B"); x.done(); break;
            case 10: x.behind(a); break;
            case 11: x.of(a, b); break;
            case 12: x.pull(a); break;
            case 13: x.pulls(a, b, c); break;
            case 14: x.pattern(); x.hole(a); break;
            case 15: x.rip(a); break;
            case 16: x.hold(a, b); break;
            case 17: x.hands(); x.who(a); break;
            case 18: x.seen(a, draw.nextBoolean()); break;
            case 19: x.tights(); x.next(a); break;
            case 20: x.moths(a, b, c); break;
            case 21: x.year(a, b, c); break;
            case 22: x.image(a); break;
            case 23: x.restore(a); break;
            case 24: x.told(a); break;
            case 25: if (draw.nextInt(9) == 0) { x.cast(); } break;
            default: x.forget(); break;
        }
    }
}
