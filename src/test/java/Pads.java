/** Small help with scarves and pads. */
final class Pads {
    /** Numbers far beyond all that the document takes, on both sides. */
    static final int[] FAR = {Integer.MIN_VALUE, Integer.MIN_VALUE + 1, -65537, -100, Integer.MAX_VALUE - 1, Integer.MAX_VALUE};
    /** All 24 STITCHES as bits. */
    static final int ALL = (1 << 24) - 1;

    private Pads() {
    }

    /** Wipes the pad and says a text on it. */
    static void write(KnitChronicle x, String text) {
        x.wipe();
        for (int i = 0; i < text.length(); i++) {
            x.say(text.charAt(i));
        }
    }

    /** Does a text's acts. */
    static int does(KnitChronicle x, String text) {
        write(x, text);
        return x.done();
    }

    /** One of an act's signs ahead of each of so many STITCHES' letters, from A on. */
    static String toEach(char sign, int stitches) {
        StringBuilder text = new StringBuilder();
        for (int i = 0; i < stitches; i++) {
            text.append(sign).append((char) ('A' + i));
        }
        return text.toString();
    }

    static String letter(int stitch) {
        return String.valueOf((char) ('A' + stitch));
    }

    /** Stitches by their colours alone, tight by 5, each on none. */
    static KnitChronicle row(int... colours) {
        KnitChronicle x = new KnitChronicle();
        for (int colour : colours) {
            x.stitch(colour, 5, -1);
        }
        return x;
    }

    /** Stitches of colour 0 by how tight they are, each on none. */
    static KnitChronicle tights(int... tights) {
        KnitChronicle x = new KnitChronicle();
        for (int tight : tights) {
            x.stitch(0, tight, -1);
        }
        return x;
    }

    /** Stitches of colour 0, tight by 5, by what each hangs on. */
    static KnitChronicle hung(int... anchors) {
        KnitChronicle x = new KnitChronicle();
        for (int anchor : anchors) {
            x.stitch(0, 5, anchor);
        }
        return x;
    }

    /** So many stitches of colour 0, tight by 5, each on the one ahead of it. */
    static KnitChronicle chain(int stitches) {
        KnitChronicle x = new KnitChronicle();
        for (int i = 0; i < stitches; i++) {
            x.stitch(0, 5, i - 1);
        }
        return x;
    }

    /** So many stitches of colour 0, tight by 5, each on none. */
    static KnitChronicle alone(int stitches) {
        KnitChronicle x = new KnitChronicle();
        for (int i = 0; i < stitches; i++) {
            x.stitch(0, 5, -1);
        }
        return x;
    }

    /** How tight each of the knitters knits from now on. */
    static KnitChronicle knitters(KnitChronicle x, int a, int b, int c, int d) {
        x.knitter(0, a);
        x.knitter(1, b);
        x.knitter(2, c);
        x.knitter(3, d);
        return x;
    }

    /** What told() tells: the scarf, the knitters, how many signs and sights. */
    static String tells(KnitChronicle x) {
        StringBuilder s = new StringBuilder();
        int[] whats = {0, 1, 2, 3, 4, 10, 11, 12, 13};
        for (int what : whats) {
            s.append(what).append('=').append(x.told(what)).append(' ');
        }
        int stitches = x.told(1);
        for (int stitch = 0; stitch < stitches; stitch++) {
            for (int trait = 0; trait < 3; trait++) {
                s.append(x.told(100 * (1 + stitch) + trait)).append(trait == 2 ? ';' : ',');
            }
        }
        return s.append(" tights ").append(x.tights()).append(' ').toString();
    }

    /** What is told, and what follows from the pad and from images. */
    static String all(KnitChronicle x) {
        StringBuilder s = new StringBuilder(tells(x));
        s.append("fault ").append(x.fault());
        s.append(" judged ").append(x.judge(0)).append(' ').append(x.judge(1));
        for (int what = 0; what < 4; what++) {
            s.append(" behind ").append(x.behind(what));
        }
        return s.append(" rip ").append(x.rip(0)).append(' ').append(x.rip(1)).append(' ').toString();
    }

    /** All that there is to be told of an object: it is used up by it, its weeks done and its images restored. */
    static String usedUp(KnitChronicle x) {
        StringBuilder s = new StringBuilder(all(x));
        s.append("done ").append(x.done()).append(' ').append(tells(x));
        s.append("wiped ").append(x.wipe());
        for (int n = 0; n < 2; n++) {
            s.append(" restored ").append(x.restore(n)).append(' ').append(tells(x));
        }
        return s.toString();
    }
}
