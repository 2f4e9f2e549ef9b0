/** Small help with scarves and pads. */
final class Pads {
    private Pads() {
    }

    /** Wipes the pad and says a text on it. */
    static void write(KnitChronicle x, String text) {
        x.wipe();
        for (int i = 0; i < text.length(); i++) {
            x.say(text.charAt(i));
        }
    }

    /** Does a text's acts. */
    static int does(KnitChronicle x, String text) {
        write(x, text);
        return x.done();
    }

    /** Stitches by their colours alone, tight by 5, each on none. */
    static KnitChronicle row(int... colours) {
        KnitChronicle x = new KnitChronicle();
        for (int colour : colours) {
            x.stitch(colour, 5, -1);
        }
        return x;
    }

    /** Stitches of colour 0 by how tight they are, each on none. */
    static KnitChronicle tights(int... tights) {
        KnitChronicle x = new KnitChronicle();
        for (int tight : tights) {
            x.stitch(0, tight, -1);
        }
        return x;
    }

    /** Stitches of colour 0, tight by 5, by what each hangs on. */
    static KnitChronicle hung(int... anchors) {
        KnitChronicle x = new KnitChronicle();
        for (int anchor : anchors) {
            x.stitch(0, 5, anchor);
        }
        return x;
    }

    /** All that an object tells of itself, images and what follows from them too. */
    static String all(KnitChronicle x) {
        StringBuilder s = new StringBuilder();
        int[] whats = {0, 1, 2, 3, 4, 10, 11, 12, 13};
        for (int what : whats) {
            s.append(what).append('=').append(x.told(what)).append(' ');
        }
        for (int stitch = 0; stitch < x.told(1); stitch++) {
            for (int trait = 0; trait < 3; trait++) {
                s.append(x.told(100 * (1 + stitch) + trait)).append(trait == 2 ? ';' : ',');
            }
        }
        s.append(" tights ").append(x.tights()).append(" fault ").append(x.fault());
        s.append(" judged ").append(x.judge(0)).append(' ').append(x.judge(1));
        for (int what = 0; what < 4; what++) {
            s.append(" behind ").append(x.behind(what));
        }
        s.append(" rip ").append(x.rip(0)).append(' ').append(x.rip(1));
        return s.toString();
    }
}
