/** The promises one by one: what they say, at the edges that the document names, and wrong inputs. */
final class PromiseTest {
    private static final Due due = new Due("PromiseTest");
    private static final int NONE = -6, UNKNOWN = -1, OUTSIDE = -2, STATE = -3, FULL = -4, NO = -5;
    private static final long LOST = -1000000000000000000L;

    public static void main(String[] args) {
        newObject();
        stitch();
        cast();
        knitter();
        say();
        wipe();
        fault();
        judge();
        judgeReasons();
        done();
        behind();
        of();
        pull();
        pulls();
        pattern();
        hole();
        rip();
        hold();
        hands();
        who();
        seen();
        forget();
        tights();
        next();
        moths();
        mothsEdges();
        year();
        image();
        restore();
        told();
        due.end();
    }

    // 1
    private static void newObject() {
        KnitChronicle x = new KnitChronicle();
        for (int what = 0; what < 5; what++) {
            due.is("new told " + what, x.told(what), 0);
        }
        for (int k = 0; k < 4; k++) {
            due.is("new told knitter " + k, x.told(10 + k), 5);
        }
        due.is("new fault", x.fault(), NONE);
        due.is("new tights", x.tights(), 1023);
        due.is("new image", x.rip(0), STATE);
        due.is("new image 1", x.restore(1), STATE);
    }

    // 2
    private static void stitch() {
        KnitChronicle x = new KnitChronicle();
        due.is("first", x.stitch(3, 9, -1), 1);
        due.is("second", x.stitch(0, 0, 0), 2);
        due.is("third", x.stitch(1, 4, 0), 3);
        due.is("colour", x.told(100), 3);
        due.is("tight", x.told(101), 9);
        due.is("on none", x.told(102), NONE);
        due.is("on 0", x.told(302), 0);
        due.is("itself", x.stitch(0, 0, 3), UNKNOWN);
        due.is("on -2", x.stitch(0, 0, -2), UNKNOWN);
        due.is("unknown ahead of outside", x.stitch(4, 10, 3), UNKNOWN);
        due.is("colour 4", x.stitch(4, 0, -1), OUTSIDE);
        due.is("colour -1", x.stitch(-1, 0, -1), OUTSIDE);
        due.is("tight 10", x.stitch(0, 10, -1), OUTSIDE);
        due.is("tight -1", x.stitch(0, -1, -1), OUTSIDE);
        due.is("still", x.told(1), 3);
        for (int n = 4; n <= 24; n++) {
            due.is("up to 24", x.stitch(0, 0, n - 2), n);
        }
        due.is("full", x.stitch(0, 0, 23), FULL);
        due.is("outside ahead of full", x.stitch(0, 10, 23), OUTSIDE);
        due.is("unknown ahead of full", x.stitch(0, 0, 24), UNKNOWN);
        due.is("still 24", x.told(1), 24);
    }

    // 3
    private static void cast() {
        KnitChronicle x = Pads.hung(-1, 0, 1);
        Pads.does(x, "*A");
        x.knitter(2, 8);
        x.seen(3, true);
        x.say('a');
        due.is("cast", x.cast(), 3);
        due.is("no more", x.told(1), 0);
        due.is("none eaten", x.told(2), 0);
        due.is("none loose", x.told(4), 0);
        due.is("knitter stays", x.told(12), 8);
        due.is("sights stay", x.told(3), 1);
        due.is("pad stays", x.told(0), 1);
        due.is("cast again", x.cast(), 0);
        due.is("from the start", x.stitch(1, 1, -1), 1);
        due.is("not eaten", x.told(2), 0);
    }

    // 4
    private static void knitter() {
        KnitChronicle x = Pads.tights(7);
        due.is("was", x.knitter(0, 9), 5);
        due.is("was then", x.knitter(0, 0), 9);
        due.is("another", x.knitter(3, 1), 5);
        due.is("told 0", x.told(10), 0);
        due.is("told 3", x.told(13), 1);
        due.is("no knitter 4", x.knitter(4, 0), UNKNOWN);
        due.is("no knitter -1", x.knitter(-1, 0), UNKNOWN);
        due.is("unknown ahead of outside", x.knitter(4, 10), UNKNOWN);
        due.is("tight 10", x.knitter(0, 10), OUTSIDE);
        due.is("tight -1", x.knitter(0, -1), OUTSIDE);
        due.is("unchanged", x.told(10), 0);
        due.is("stitches stay", x.told(101), 7);
    }

    // 5
    private static void say() {
        KnitChronicle x = new KnitChronicle();
        due.is("32", x.say(32), OUTSIDE);
        due.is("127", x.say(127), OUTSIDE);
        due.is("-1", x.say(-1), OUTSIDE);
        due.is("33", x.say(33), 1);
        due.is("126", x.say(126), 2);
        for (int n = 3; n <= 60; n++) {
            due.is("up to 60", x.say('a'), n);
        }
        due.is("full", x.say('a'), FULL);
        due.is("outside ahead of full", x.say(32), OUTSIDE);
        due.is("still 60", x.told(0), 60);
    }

    // 6
    private static void wipe() {
        KnitChronicle x = Pads.row(1);
        due.is("nothing", x.wipe(), 0);
        Pads.write(x, "-A");
        due.is("two", x.wipe(), 2);
        due.is("gone", x.told(0), 0);
        due.is("no fault left", x.fault(), NONE);
        due.is("scarf stays", x.told(1), 1);
    }

    private static void faultOf(String text, int want) {
        KnitChronicle x = new KnitChronicle();
        Pads.write(x, text);
        due.is("fault of " + text, x.fault(), want);
        due.is("judge 0 of " + text, x.judge(0) == NO ? 1 : 0, want == NONE ? 0 : 1);
        due.is("judge 1 of " + text, x.judge(1) == NO ? 1 : 0, want == NONE ? 0 : 1);
        due.is("done of " + text, x.done() == NO && want != NONE ? 1 : 0, want == NONE ? 0 : 1);
    }

    // 7
    private static void fault() {
        String[] good = {"", "a0", "d3", "-A", "-X", "*A", "*X", "+Aa", "+Xd", "a0b1c2d3", "-A*B+Cd-D"};
        for (String text : good) {
            faultOf(text, NONE);
        }
        String[] first = {"e0", "`0", "A", "0", "~", "!", ",A", "B0", "/"};
        for (String text : first) {
            faultOf(text, 0);
        }
        String[] second = {"a4", "a/", "d9", "aa", "-a", "-Y", "-@", "*Y", "*0", "+Y", "+a", "+@a", "a-", "a", "-", "*", "+"};
        for (String text : second) {
            faultOf(text, 1);
        }
        String[] third = {"+Ae", "+A`", "+AA", "+A0", "+A", "a0A", "-A0", "*Ax", "-AB"};
        for (String text : third) {
            faultOf(text, 2);
        }
        faultOf("+Aa9", 3);
        faultOf("a0b1-A*", 7);
        faultOf("a0b1-A+X", 8);
        faultOf("a0b1-A+Xe", 8);
        faultOf("a0b1-Ac", 7);
    }

    private static void judged(KnitChronicle x, String text, int act, int why) {
        Pads.write(x, text);
        due.is("judge 0 of " + text, x.judge(0), act);
        due.is("judge 1 of " + text, x.judge(1), why);
        due.is("done of " + text + " is refused", x.done(), act == NONE ? text.length() / 2 : NO);
        due.is("pad after " + text, x.wipe(), act == NONE ? 0 : text.length());
    }

    // 8
    private static void judge() {
        KnitChronicle x = new KnitChronicle();
        due.is("empty pad", x.judge(0), NONE);
        due.is("what 2", x.judge(2), OUTSIDE);
        due.is("what -1", x.judge(-1), OUTSIDE);
        x.say('e');
        due.is("outside ahead of no", x.judge(2), OUTSIDE);
        due.is("fault", x.judge(0), NO);
        judged(x, "-A", 0, 1);
        judged(x, "*A", 0, 1);
        judged(x, "+Aa", 0, 1);
        judged(x, "a0-B", 1, 1);
        judged(x, "a0-A-A", 2, 1);
        judged(x, "a0*A*A", 2, 3);
        judged(x, "a0+Aa", 1, 3);
        judged(x, "a0*A+Ab+Ac", 3, 3);
        // the first that can not be, though others follow it
        judged(x, "a0*B+Aa-C", 1, 1);
        due.is("nothing was done", x.told(1), 0);
        judged(x, "a0*A", NONE, NONE);
        due.is("done", x.told(2), 1);
        judged(x, "*A", 0, 3);
        // what hangs on it goes with it: there is no B any more
        judged(x, "+Aaa0-A*B", 3, 1);
    }

    private static void judgeReasons() {
        KnitChronicle x = new KnitChronicle();
        for (int i = 0; i < 23; i++) {
            x.stitch(0, 5, -1);
        }
        judged(x, "a0a0", 1, 2);
        judged(x, "a0*Xa1", 2, 2);
        judged(x, "a0-Xa1", NONE, NONE);
        judged(x, "-X-X", 1, 1);
        judged(x, "*W", NONE, NONE);
        due.is("W is eaten", x.told(2), 1 << 22);
        x.wipe();
        Pads.write(x, "+Wa");
        due.is("mended", x.done(), 1);
    }

    // 9
    private static void done() {
        KnitChronicle x = new KnitChronicle();
        due.is("nothing to do", x.done(), 0);
        x.knitter(1, 8);
        x.knitter(2, 0);
        due.is("three", Pads.does(x, "b2c3b2"), 3);
        due.is("pad is empty", x.told(0), 0);
        due.is("stitches", x.told(1), 3);
        due.is("tight as b", x.told(101), 8);
        due.is("tight as c", x.told(201), 0);
        due.is("colour", x.told(200), 3);
        due.is("on its colour", x.told(302), 0);
        due.is("on none", x.told(202), NONE);
        due.is("eat", Pads.does(x, "*A*C"), 2);
        due.is("eaten", x.told(2), 5);
        due.is("no one to hang on", Pads.does(x, "a2"), 1);
        due.is("on none as all are eaten", x.told(402), NONE);
        due.is("mend by c", Pads.does(x, "+Cc"), 1);
        due.is("as tight as c", x.told(301), 0);
        due.is("hangs as it did", x.told(302), 0);
        due.is("still loose", x.told(4), 4);
        due.is("on the last that is not eaten, a loose one too", Pads.does(x, "-Da2"), 2);
        due.is("on C", x.told(402), 2);
        due.is("fault", Pads.does(x, "a0e"), NO);
        due.is("pad stays", x.told(0), 3);
        due.is("can not be", Pads.does(x, "a0*A"), NO);
        due.is("pad stays then", x.told(0), 4);
        due.is("scarf stays", x.told(1), 4);
        due.is("pull one between", Pads.does(x, "-B"), 1);
        due.is("closed up", x.told(200), 2);
        due.is("new numbers of what is hung on", x.told(302), 1);
        due.is("eaten as before", x.told(2), 1);
        due.is("pull what all hang on", Pads.does(x, "-A"), 1);
        due.is("all gone", x.told(1), 0);
    }

    private static void behindIs(KnitChronicle x, String text, int count, int eaten, int loose, int most) {
        Pads.write(x, text);
        due.is("count behind " + text, x.behind(0), count);
        due.is("eaten behind " + text, x.behind(1), eaten);
        due.is("loose behind " + text, x.behind(2), loose);
        due.is("most undone behind " + text, x.behind(3), most);
    }

    // 10
    private static void behind() {
        KnitChronicle x = Pads.hung(-1, 0, 1, -1, 3);
        behindIs(x, "", 5, 0, 0, 0);
        behindIs(x, "*A", 5, 1, 6, 0);
        behindIs(x, "*A*B", 5, 3, 6, 0);
        behindIs(x, "*B-A", 2, 0, 0, 3);
        behindIs(x, "-E-A", 1, 0, 0, 3);
        behindIs(x, "-A-A", 0, 0, 0, 3);
        behindIs(x, "-D-C", 2, 0, 0, 2);
        behindIs(x, "*D-B", 3, 2, 4, 2);
        behindIs(x, "*E*D-A", 2, 3, 2, 3);
        behindIs(x, "a0*F", 6, 32, 0, 0);
        due.is("nothing was done", x.told(1), 5);
        due.is("nothing was eaten", x.told(2), 0);
        due.is("what 4", x.behind(4), OUTSIDE);
        due.is("what -1", x.behind(-1), OUTSIDE);
        Pads.write(x, "-");
        due.is("outside ahead of no", x.behind(4), OUTSIDE);
        Pads.write(x, "-X");
        for (int what = 0; what < 4; what++) {
            due.is("can not be", x.behind(what), NO);
        }
        Pads.write(x, "-Ax");
        for (int what = 0; what < 4; what++) {
            due.is("fault", x.behind(what), NO);
        }
    }

    // 11
    private static void of() {
        KnitChronicle x = Pads.hung(-1, 0);
        x.knitter(0, 7);
        Pads.write(x, "a3a0*A+Ab");
        int[][] want = {{0, 5, NONE}, {0, 5, 0}, {3, 7, NONE}, {0, 7, 1}};
        for (int stitch = 0; stitch < 4; stitch++) {
            for (int what = 0; what < 3; what++) {
                due.is("of " + stitch + " " + what, x.of(stitch, what), want[stitch][what]);
            }
        }
        due.is("none behind that", x.of(4, 0), UNKNOWN);
        due.is("none -1", x.of(-1, 0), UNKNOWN);
        due.is("what 3", x.of(0, 3), OUTSIDE);
        due.is("what -1", x.of(0, -1), OUTSIDE);
        due.is("outside ahead of unknown", x.of(9, 3), OUTSIDE);
        Pads.write(x, "-A");
        due.is("there now, not behind", x.of(0, 0), UNKNOWN);
        Pads.write(x, "-X");
        due.is("can not be", x.of(0, 0), NO);
        due.is("no ahead of unknown", x.of(9, 0), NO);
        due.is("outside ahead of no", x.of(0, 3), OUTSIDE);
        Pads.write(x, "-");
        due.is("fault", x.of(0, 0), NO);
    }

    // 12
    private static void pull() {
        KnitChronicle x = Pads.hung(-1, 0, 0, 2, -1, 3);
        int[] want = {5, 1, 3, 2, 1, 1};
        for (int stitch = 0; stitch < 6; stitch++) {
            due.is("pull " + stitch, x.pull(stitch), want[stitch]);
        }
        due.is("it only asks", x.told(1), 6);
        due.is("none 6", x.pull(6), UNKNOWN);
        due.is("none -1", x.pull(-1), UNKNOWN);
        Pads.write(x, "-A");
        due.is("of now, wherever the pad", x.pull(0), 5);
    }

    private static void pullsIs(KnitChronicle x, int gone, int stay, int many, int which) {
        due.is("pulls " + gone + " " + stay + " 0", x.pulls(gone, stay, 0), many);
        due.is("pulls " + gone + " " + stay + " 1", x.pulls(gone, stay, 1), which);
    }

    // 13
    private static void pulls() {
        // 0 - 1 - 2, 1 - 3, 4 - 5
        KnitChronicle x = Pads.hung(-1, 0, 1, 1, -1, 4);
        pullsIs(x, 0, 0, 0, 0);
        pullsIs(x, 0, 63, 0, 0);
        pullsIs(x, 12, 0, 1, 1);
        pullsIs(x, 12, 1, 1, 2);
        pullsIs(x, 12, 2, 2, 12);
        pullsIs(x, 8, 4, 1, 8);
        pullsIs(x, 4, 8, 1, 4);
        pullsIs(x, 36, 0, 2, 17);
        pullsIs(x, 36, 17, 2, 34);
        pullsIs(x, 2, 4, NONE, NONE);
        pullsIs(x, 1, 8, NONE, NONE);
        pullsIs(x, 16, 16, NONE, NONE);
        pullsIs(x, 63, 0, 2, 17);
        pullsIs(x, 62, 1, 2, 18);
        due.is("it only asks", x.told(1), 6);
        due.is("gone is not there", x.pulls(64, 0, 0), UNKNOWN);
        due.is("stay is not there", x.pulls(0, 64, 0), UNKNOWN);
        due.is("negative", x.pulls(Integer.MIN_VALUE, 0, 0), UNKNOWN);
        due.is("unknown ahead of outside", x.pulls(0, 64, 2), UNKNOWN);
        due.is("what 2", x.pulls(0, 0, 2), OUTSIDE);
        due.is("what -1", x.pulls(0, 0, -1), OUTSIDE);
        Pads.does(x, "*A*B*C");
        pullsIs(x, 12, 1, 1, 2);
    }

    // 14
    private static void pattern() {
        due.is("no stitches", new KnitChronicle().pattern(), 0);
        due.is("one", Pads.row(2).pattern(), 1);
        due.is("alike", Pads.row(2, 2, 2).pattern(), 1);
        due.is("by two", Pads.row(1, 2, 1, 2, 1).pattern(), 2);
        due.is("by three, cut", Pads.row(0, 0, 1, 0, 0).pattern(), 3);
        due.is("itself", Pads.row(0, 1, 2, 3).pattern(), 4);
        due.is("the end spoils it", Pads.row(1, 2, 1, 2, 2).pattern(), 5);
        KnitChronicle x = Pads.row(0, 1, 2, 1, 0, 1);
        due.is("a whole one between", x.pattern(), 4);
        Pads.does(x, "*C");
        due.is("the one between is eaten", x.pattern(), 2);
        Pads.does(x, "*B*D*F");
        due.is("the others are eaten", x.pattern(), 1);
        Pads.does(x, "*A*E");
        due.is("all are eaten", x.pattern(), 1);
        KnitChronicle far = Pads.row(0, 0, 0, 0, 1);
        Pads.does(far, "*C");
        due.is("across an eaten one", far.pattern(), 5);
    }

    // 15
    private static void hole() {
        KnitChronicle x = Pads.row(0, 1, 2, 1, 0, 1);
        due.is("not eaten", x.hole(2), STATE);
        due.is("none 6", x.hole(6), UNKNOWN);
        due.is("none -1", x.hole(-1), UNKNOWN);
        Pads.does(x, "*C");
        due.is("as 0 and 4", x.hole(2), 1);
        due.is("not eaten yet", x.hole(0), STATE);
        Pads.does(x, "*A*E");
        due.is("as the others", x.hole(2), 2);
        Pads.does(x, "*B*D*F");
        due.is("all eaten", x.hole(2), 15);
        KnitChronicle alone = Pads.row(3, 2, 1, 3, 2);
        Pads.does(alone, "*C");
        due.is("pattern of three", alone.pattern(), 3);
        due.is("none like it", alone.hole(2), 15);
        KnitChronicle ahead = Pads.row(3, 2, 1, 3, 2);
        Pads.does(ahead, "*E");
        due.is("one ahead of it", ahead.hole(4), 4);
        Pads.does(ahead, "+Ea*B");
        due.is("one behind it", ahead.hole(1), 4);
    }

    private static void ripIs(int[] kept, int[] now, int want) {
        KnitChronicle x = Pads.row(kept);
        x.image(1);
        x.cast();
        for (int colour : now) {
            x.stitch(colour, 1, -1);
        }
        due.is("rip", x.rip(1), want);
    }

    // 16
    private static void rip() {
        ripIs(new int[] {}, new int[] {}, 0);
        ripIs(new int[] {0, 1, 2}, new int[] {}, 3);
        ripIs(new int[] {}, new int[] {0, 1}, 2);
        ripIs(new int[] {0, 1, 2}, new int[] {0, 1, 2}, 0);
        ripIs(new int[] {0, 1, 2, 3}, new int[] {3, 2, 1, 0}, 6);
        ripIs(new int[] {0, 1, 0, 1}, new int[] {1, 0, 1, 0}, 2);
        ripIs(new int[] {0, 3, 1, 3, 2}, new int[] {0, 1, 2}, 2);
        ripIs(new int[] {0, 1, 2}, new int[] {0, 3, 1, 3, 2}, 2);
        ripIs(new int[] {0, 0, 1}, new int[] {1, 0, 0}, 2);
        KnitChronicle x = Pads.row(0, 1);
        due.is("image 2", x.rip(2), OUTSIDE);
        due.is("image -1", x.rip(-1), OUTSIDE);
        due.is("not kept", x.rip(0), STATE);
        x.image(0);
        due.is("the other is not kept", x.rip(1), STATE);
        Pads.does(x, "*A");
        due.is("eaten is no matter", x.rip(0), 0);
    }

    private static void holdIs(KnitChronicle x, int k, int tight, int first) {
        due.is("hold " + k + " 0", x.hold(k, 0), tight);
        due.is("hold " + k + " 1", x.hold(k, 1), first);
    }

    // 17
    private static void hold() {
        KnitChronicle x = Pads.tights(2, 3, 4, 5, 6);
        holdIs(x, 1, 20, 5);
        holdIs(x, 2, 11, 3);
        holdIs(x, 3, 9, 2);
        holdIs(x, 4, 6, 2);
        holdIs(x, 5, 6, 0);
        holdIs(x, 9, 6, 0);
        Pads.does(x, "*E");
        holdIs(x, 1, 20, 5);
        holdIs(Pads.tights(9, 1, 1), 2, 9, 1);
        holdIs(Pads.tights(1, 1, 9), 2, 9, 2);
        holdIs(Pads.tights(1, 1, 9), 3, 9, 0);
        holdIs(Pads.tights(0, 0, 0), 1, 0, 3);
        holdIs(Pads.tights(0, 0, 0), 2, 0, 0);
        holdIs(Pads.tights(5, 0, 0, 5), 2, 5, 1);
        holdIs(Pads.tights(), 1, 0, 0);
        holdIs(Pads.tights(), 9, 0, 0);
        due.is("k 0", x.hold(0, 0), OUTSIDE);
        due.is("k 10", x.hold(10, 0), OUTSIDE);
        due.is("what 2", x.hold(1, 2), OUTSIDE);
        due.is("what -1", x.hold(1, -1), OUTSIDE);
    }


    private static void handsAre(KnitChronicle x, int changes, int... row) {
        due.is("hands", x.hands(), changes);
        for (int i = 0; i < row.length; i++) {
            due.is("who " + i, x.who(i), row[i]);
        }
        due.is("who behind the last", x.who(row.length), UNKNOWN);
        due.is("who -1", x.who(-1), UNKNOWN);
    }

    // 18
    private static void hands() {
        handsAre(Pads.knitters(Pads.tights(), 0, 0, 0, 0), 0);
        handsAre(Pads.knitters(Pads.tights(5), 0, 0, 0, 0), NONE, NONE);
        handsAre(Pads.knitters(Pads.tights(5), 3, 7, 6, 4), 0, 2);
        handsAre(Pads.knitters(Pads.tights(5, 5, 9), 5, 5, 5, 5), NONE, NONE, NONE, NONE);
        handsAre(Pads.knitters(Pads.tights(9, 5, 5), 5, 5, 5, 5), NONE, NONE, NONE, NONE);
        // knitter 1 knits all, though 0 could begin
        handsAre(Pads.knitters(Pads.tights(1, 2, 3), 0, 2, 4, 9), 0, 1, 1, 1);
        KnitChronicle eaten = Pads.knitters(Pads.tights(1, 9), 1, 1, 1, 1);
        Pads.does(eaten, "*B");
        handsAre(eaten, NONE, NONE, NONE);
    }

    // 19
    private static void who() {
        // where the change may come sooner or later, 0 knits as long as he can
        handsAre(Pads.knitters(Pads.tights(2, 3, 4, 5), 2, 4, 4, 4), 1, 0, 0, 1, 1);
        handsAre(Pads.knitters(Pads.tights(5, 4, 3, 2), 2, 4, 4, 4), 1, 1, 1, 0, 0);
        handsAre(Pads.knitters(Pads.tights(0, 9, 0, 9), 0, 9, 0, 9), 3, 0, 1, 0, 1);
        handsAre(Pads.knitters(Pads.tights(0, 5, 5, 9), 9, 5, 4, 0), 2, 3, 1, 1, 0);
        // 0 could begin, but not with as few changes
        handsAre(Pads.knitters(Pads.tights(3, 5, 5), 2, 4, 9, 9), 0, 1, 1, 1);
        KnitChronicle x = Pads.tights(3);
        due.is("none fits", Pads.knitters(x, 9, 9, 9, 9).who(0), NONE);
        due.is("unknown ahead of none", x.who(1), UNKNOWN);
    }

    // 20
    private static void seen() {
        KnitChronicle x = new KnitChronicle();
        due.is("v 10", x.seen(10, true), OUTSIDE);
        due.is("v -1", x.seen(-1, false), OUTSIDE);
        for (int n = 1; n <= 8; n++) {
            due.is("up to 8", x.seen(n % 2 == 0 ? 0 : 9, false), n);
        }
        due.is("full", x.seen(5, true), FULL);
        due.is("outside ahead of full", x.seen(10, true), OUTSIDE);
        due.is("a refused one leaves no mark", x.tights(), 252);
        due.is("eight", x.told(3), 8);
    }

    // 21
    private static void forget() {
        KnitChronicle x = Pads.row(1);
        due.is("nothing", x.forget(), 0);
        x.seen(3, true);
        x.seen(9, true);
        due.is("two", x.forget(), 2);
        due.is("gone", x.told(3), 0);
        due.is("all fit again", x.tights(), 1023);
        due.is("scarf stays", x.told(1), 1);
    }

    // 22
    private static void tights() {
        for (int v = 0; v < 10; v++) {
            KnitChronicle x = new KnitChronicle();
            int near = (1 << v | 1 << v + 1 | (v == 0 ? 0 : 1 << v - 1)) & 1023;
            x.seen(v, true);
            due.is("may " + v, x.tights(), near);
            x.forget();
            x.seen(v, false);
            due.is("can not " + v, x.tights(), 1023 & ~near);
            x.seen(v, true);
            due.is("both " + v, x.tights(), 0);
        }
        KnitChronicle x = new KnitChronicle();
        x.seen(4, true);
        x.seen(6, true);
        due.is("4 and 6", x.tights(), 32);
    }

    private static void nextIs(KnitChronicle x, int v, int left) {
        due.is("next 0", x.next(0), v);
        due.is("next 1", x.next(1), left);
    }

    // 23
    private static void next() {
        KnitChronicle x = new KnitChronicle();
        nextIs(x, 1, 7);
        x.seen(1, false);
        nextIs(x, 4, 4);
        x.seen(4, false);
        nextIs(x, 6, 2);
        x.seen(6, true);
        nextIs(x, 5, 1);
        x.seen(5, true);
        nextIs(x, 0, 1);
        x.seen(9, true);
        nextIs(x, NONE, NONE);
        due.is("what 2", x.next(2), OUTSIDE);
        due.is("what -1", x.next(-1), OUTSIDE);
        x.forget();
        for (int i = 0; i < 8; i++) {
            x.seen(2, true);
        }
        nextIs(x, 0, 2);
    }

    private static void mothsAre(KnitChronicle x, int set, int t, long upper, long lower) {
        due.is("moths " + set + " " + t + " 0", x.moths(set, t, 0), upper);
        due.is("moths " + set + " " + t + " 1", x.moths(set, t, 1), lower);
    }

    private static void mothsAreRefused(KnitChronicle x, int set, int t, long refusal) {
        mothsAre(x, set, t, LOST + refusal, LOST + refusal);
    }

    // 24
    private static void moths() {
        // 0 - 1 - 2, 3, 0 - 4
        KnitChronicle x = Pads.hung(-1, 0, 1, -1, 0);
        mothsAre(x, 1, 1, 9, 10);
        mothsAre(x, 1, 2, 4, 5);
        mothsAre(x, 1, 5, 1, 2);
        mothsAre(x, 1, 8, 1, 5);
        mothsAre(x, 4, 4, 27, 125);
        mothsAre(x, 7, 4, 27, 125);
        mothsAre(x, 20, 5, 1, 16);
        mothsAre(x, 31, 3, 16807, 100000);
        mothsAre(x, 31, 0, 1, 1);
        mothsAre(x, 31, 10, 0, 1);
        mothsAre(x, 0, 10, 1, 1);
        mothsAre(x, 0, 0, 1, 1);
        Pads.does(x, "*B");
        mothsAre(x, 4, 0, 0, 1);
        mothsAre(x, 2, 3, 0, 1);
        mothsAre(x, 20, 3, 0, 1);
        mothsAre(x, 16, 3, 49, 100);
        Pads.does(x, "+Ba");
        mothsAre(x, 4, 4, 27, 125);
    }

    private static void mothsEdges() {
        KnitChronicle x = new KnitChronicle();
        mothsAreRefused(x, 1, 5, UNKNOWN);
        mothsAreRefused(x, -1, 5, UNKNOWN);
        mothsAreRefused(x, 1, 11, UNKNOWN);
        mothsAreRefused(x, 0, 11, OUTSIDE);
        mothsAreRefused(x, 0, -1, OUTSIDE);
        due.is("part 2", x.moths(0, 5, 2), LOST + OUTSIDE);
        due.is("part -1", x.moths(0, 5, -1), LOST + OUTSIDE);
        for (int i = 0; i < 20; i++) {
            x.stitch(0, 5, i == 19 ? -1 : i - 1);
        }
        mothsAre(x, 1 << 17, 7, 387420489L, 1000000000000000000L);
        mothsAre(x, 1 << 17, 9, 1, 1000000000000000000L);
        mothsAreRefused(x, 1 << 18, 7, STATE);
        mothsAreRefused(x, 1 << 17 | 1 << 19, 7, STATE);
        mothsAreRefused(x, 1 << 18, 11, OUTSIDE);
        mothsAreRefused(x, 1 << 18 | 1 << 20, 7, UNKNOWN);
        Pads.does(x, "*A");
        mothsAreRefused(x, 1 << 18, 7, STATE);
        mothsAre(x, 1 << 17, 7, 0, 1);
    }

    // 25
    private static void year() {
        KnitChronicle x = Pads.hung(-1, 0, 1);
        String before = Pads.all(x);
        // 74: by 8 left over 2, STITCH 9 is mended: there is none
        yearIs(x, 0, 1, 3, 0, 0);
        // 74, 5624: by 8 left over 0, STITCH 703 left over by 24 = 7 is pulled: there is none
        yearIs(x, 0, 2, 3, 0, 0);
        // .. 28652: by 8 left over 4, he knits COLOUR 895 left over by 4
        yearIs(x, 0, 3, 4, 0, 0);
        // 75 * 3 + 74 = 299: by 8 left over 3, a stitch is knit
        yearIs(x, 3, 1, 4, 0, 0);
        // 75 * 2186 + 74 = 164024, left over 32950: by 8 left over 6
        yearIs(x, 2186, 1, 4, 0, 0);
        // a seed whose first x is 0: STITCH 0 is pulled, all go
        yearIs(x, seedOf(0), 1, 0, 0, 3);
        // 8: STITCH 1 is pulled
        yearIs(x, seedOf(192 + 8), 1, 1, 0, 2);
        // 193: STITCH 24 left over by 24 = 0 is eaten
        yearIs(x, seedOf(192 * 5 + 1), 1, 3, 3, 0);
        due.is("it only asks", Pads.all(x).equals(before) ? 1 : 0, 1);
        Pads.does(x, "*A");
        // STITCH 0 is mended
        yearIs(x, seedOf(192 * 7 + 2), 1, 3, 0, 0);
        yearIs(x, seedOf(192 * 5 + 1), 1, 3, 3, 0);
        due.is("seed -1", x.year(-1, 1, 0), OUTSIDE);
        due.is("seed 10000", x.year(10000, 1, 0), OUTSIDE);
        due.is("m 0", x.year(0, 0, 0), OUTSIDE);
        due.is("m 100", x.year(0, 100, 0), OUTSIDE);
        due.is("what 3", x.year(0, 1, 3), OUTSIDE);
        due.is("what -1", x.year(0, 1, -1), OUTSIDE);
        due.holds("seed 9999", x.year(9999, 99, 0) >= 0);
    }

    private static void yearIs(KnitChronicle x, int seed, int m, int count, int hurt, int undone) {
        due.is("year " + seed + " " + m + " 0", x.year(seed, m, 0), count);
        due.is("year " + seed + " " + m + " 1", x.year(seed, m, 1), hurt);
        due.is("year " + seed + " " + m + " 2", x.year(seed, m, 2), undone);
    }

    /** A seed after which x is this first or that many times 192 on. */
    private static int seedOf(int first) {
        for (int x = first; x < 65537; x += 192) {
            for (int seed = 0; seed < 10000; seed++) {
                if ((75 * seed + 74) % 65537 == x) {
                    return seed;
                }
            }
        }
        return -1;
    }

    // 26
    private static void image() {
        KnitChronicle x = Pads.row(0, 1);
        due.is("image 2", x.image(2), OUTSIDE);
        due.is("image -1", x.image(-1), OUTSIDE);
        due.is("0", x.image(0), 1);
        due.is("1 is not kept", x.restore(1), STATE);
        x.stitch(2, 2, -1);
        due.is("1", x.image(1), 1);
        x.cast();
        due.is("0 is as it was", x.rip(0), 2);
        due.is("1 is as it was", x.rip(1), 3);
        due.is("0 again", x.image(0), 1);
        due.is("0 is new", x.rip(0), 0);
    }

    // 27
    private static void restore() {
        KnitChronicle x = Pads.hung(-1, 0, 1);
        due.is("image 2", x.restore(2), OUTSIDE);
        due.is("image -1", x.restore(-1), OUTSIDE);
        due.is("not kept", x.restore(0), STATE);
        Pads.does(x, "*A");
        x.knitter(2, 7);
        x.seen(4, true);
        x.image(0);
        String kept = Pads.all(x);
        Pads.does(x, "-A+Aa");
        x.cast();
        x.stitch(3, 3, -1);
        x.knitter(2, 1);
        x.knitter(0, 1);
        x.seen(8, true);
        x.seen(0, false);
        Pads.write(x, "a0-");
        due.is("restored", x.restore(0), 1);
        due.is("pad stays", x.wipe(), 3);
        due.holds("as it was kept", Pads.all(x).equals(kept));
        x.cast();
        x.forget();
        due.is("restored once more", x.restore(0), 1);
        due.holds("the image lasts", Pads.all(x).equals(kept));
        x.stitch(1, 1, 2);
        due.is("the image does not grow", x.rip(0), 1);
    }

    // 28
    private static void told() {
        KnitChronicle x = Pads.hung(-1, 0, 1);
        Pads.does(x, "*A");
        x.seen(3, true);
        x.knitter(3, 2);
        Pads.write(x, "a0-");
        int[][] want = {{0, 3}, {1, 3}, {2, 1}, {3, 1}, {4, 6}, {10, 5}, {11, 5}, {12, 5}, {13, 2}, {100, 0}, {101, 5},
                {102, NONE}, {200, 0}, {202, 0}, {300, 0}, {301, 5}, {302, 1}};
        for (int[] pair : want) {
            due.is("told " + pair[0], x.told(pair[0]), pair[1]);
        }
        int[] outside = {-1, 5, 9, 14, 99, 103, 110, 199, 303, 400, 401, 2500, 2400, Integer.MIN_VALUE, Integer.MAX_VALUE};
        for (int what : outside) {
            due.is("told " + what, x.told(what), OUTSIDE);
        }
    }
}
