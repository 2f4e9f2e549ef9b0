/** Part 3 of the terms and promises 12 to 19: a test for each sentence that names where something begins or ends. */
final class PullsBoundsTest {
    private static final int NONE = -6, UNKNOWN = -1, OUTSIDE = -2, STATE = -3;

    public static void main(String[] args) throws IllegalAccessException {
        Sentences.run(PullsBoundsTest.class);
    }

    // ---- "Of now, wherever the PAD; by numbers of now."

    private static String ofNow(KnitChronicle x) {
        StringBuilder s = new StringBuilder();
        for (int i = 0; i < 5; i++) {
            s.append(x.pull(i)).append(' ').append(x.hole(i)).append(' ').append(x.who(i)).append(' ');
        }
        s.append(x.pulls(4, 1, 1)).append(' ').append(x.pulls(16, 0, 0)).append(' ').append(x.pattern()).append(' ');
        return s.append(x.rip(0)).append(' ').append(x.hold(2, 0)).append(' ').append(x.hands()).toString();
    }

    static void t3OfNowWhereverThePad(Due due) {
        for (String text : new String[] {"-A", "*A-B", "a3b3a3", "-X", "-", "e"}) {
            KnitChronicle x = Pads.chain(4);
            Pads.does(x, "*D");
            x.image(0);
            String before = ofNow(x);
            Pads.write(x, text);
            due.same("with " + text, ofNow(x), before);
        }
    }

    // ---- promise 12

    static void p12StitchesFrom0ToTheLast(Due due) {
        for (int n = 0; n <= 24; n++) {
            KnitChronicle x = Pads.chain(n);
            due.is("-1 of " + n, x.pull(-1), UNKNOWN);
            due.is("behind the last of " + n, x.pull(n), UNKNOWN);
            for (int stitch = 0; stitch < n; stitch++) {
                due.is("pull " + stitch + " of " + n, x.pull(stitch), n - stitch);
                due.is("alone", Pads.alone(n).pull(stitch), 1);
            }
        }
        for (int far : Pads.FAR) {
            due.is("pull " + far, Pads.alone(24).pull(far), UNKNOWN);
        }
        due.is("pull 32 is not pull 0", Pads.alone(24).pull(32), UNKNOWN);
    }

    static void p12AllThatHangOnItToTheLast(Due due) {
        KnitChronicle x = new KnitChronicle();
        for (int i = 0; i < 24; i++) {
            x.stitch(0, 0, i == 0 ? -1 : (i - 1) / 2);
        }
        int[] want = {24, 15, 8, 7, 7};
        for (int i = 0; i < want.length; i++) {
            due.is("pull " + i, x.pull(i), want[i]);
        }
        due.is("none hangs on 12", x.pull(12), 1);
        due.is("nor on 23", x.pull(23), 1);
        due.is("it is only asked", x.told(1), 24);
    }

    // ---- promise 13

    private static void pulls(Due due, KnitChronicle x, int gone, int stay, int many, int which) {
        due.is("how many, " + gone + " gone, " + stay + " stay", x.pulls(gone, stay, 0), many);
        due.is("which, " + gone + " gone, " + stay + " stay", x.pulls(gone, stay, 1), which);
    }

    static void p13NoSetIsThereOnAnEmptyScarf(Due due) {
        pulls(due, new KnitChronicle(), 0, 0, 0, 0);
        pulls(due, new KnitChronicle(), 1, 0, UNKNOWN, UNKNOWN);
        pulls(due, new KnitChronicle(), 0, 1, UNKNOWN, UNKNOWN);
        pulls(due, new KnitChronicle(), -1, 0, UNKNOWN, UNKNOWN);
        pulls(due, new KnitChronicle(), 0, -1, UNKNOWN, UNKNOWN);
    }

    static void p13UnknownIsASetWithOneThatIsNotThere(Due due) {
        for (int n = 1; n <= 24; n++) {
            KnitChronicle x = Pads.alone(n);
            int all = (1 << n) - 1;
            pulls(due, x, all, 0, n, all);
            pulls(due, x, 0, all, 0, 0);
            pulls(due, x, 1 << n - 1, 0, 1, 1 << n - 1);
            pulls(due, x, 1 << n, 0, UNKNOWN, UNKNOWN);
            pulls(due, x, 0, 1 << n, UNKNOWN, UNKNOWN);
            pulls(due, x, all + 1 + all, 0, UNKNOWN, UNKNOWN);
            pulls(due, x, 0, all + 1 + all, UNKNOWN, UNKNOWN);
        }
        for (int bit = 24; bit < 32; bit++) {
            pulls(due, Pads.alone(24), 1 << bit, 0, UNKNOWN, UNKNOWN);
            pulls(due, Pads.alone(24), 0, 1 | 1 << bit, UNKNOWN, UNKNOWN);
        }
    }

    static void p13WhatIs0Or1(Due due) {
        KnitChronicle x = Pads.alone(2);
        pulls(due, x, 2, 1, 1, 2);
        due.is("-1", x.pulls(2, 1, -1), OUTSIDE);
        due.is("2", x.pulls(2, 1, 2), OUTSIDE);
        for (int far : Pads.FAR) {
            due.is("what " + far, x.pulls(2, 1, far), OUTSIDE);
        }
    }

    static void p13UnknownThenOutside(Due due) {
        KnitChronicle x = Pads.alone(2);
        due.is("gone and what", x.pulls(4, 0, 2), UNKNOWN);
        due.is("stay and what", x.pulls(0, 4, -1), UNKNOWN);
        due.is("both and what", x.pulls(4, 4, 2), UNKNOWN);
    }

    static void p13UnknownAndOutsideThenNone(Due due) {
        KnitChronicle x = Pads.alone(2);
        pulls(due, x, 1, 5, UNKNOWN, UNKNOWN);
        pulls(due, x, 5, 1, UNKNOWN, UNKNOWN);
        due.is("what and none", x.pulls(1, 1, 2), OUTSIDE);
    }

    static void p13NothingToBeGone(Due due) {
        pulls(due, Pads.chain(24), 0, 0, 0, 0);
        pulls(due, Pads.chain(24), 0, Pads.ALL, 0, 0);
    }

    static void p13NoneIfItCanNotBe(Due due) {
        KnitChronicle x = Pads.chain(24);
        pulls(due, x, 1, 1, NONE, NONE);
        pulls(due, x, 1 << 23, 1 << 23, NONE, NONE);
        pulls(due, x, 1, 1 << 23, NONE, NONE);
        pulls(due, x, 1 << 22, 1 << 23, NONE, NONE);
        pulls(due, x, 1 << 23, 1 << 22, 1, 1 << 23);
        pulls(due, x, Pads.ALL, 1, NONE, NONE);
        pulls(due, x, Pads.ALL - 1, 1, 1, 2);
        // one of the set can be gone, another one can not
        pulls(due, Pads.hung(-1, 0, -1), 5, 2, NONE, NONE);
    }

    static void p13FromOneTo24Pulls(Due due) {
        pulls(due, Pads.alone(24), Pads.ALL, 0, 24, Pads.ALL);
        pulls(due, Pads.chain(24), Pads.ALL, 0, 1, 1);
        pulls(due, Pads.chain(24), 1 << 23, 0, 1, 1);
        pulls(due, Pads.alone(24), 1 << 23, Pads.ALL >> 1, 1, 1 << 23);
    }

    static void p13LeastAsBitsOfAsFew(Due due) {
        KnitChronicle x = Pads.chain(24);
        for (int stay = 0; stay < 23; stay++) {
            pulls(due, x, 1 << 23, 1 << stay, 1, 1 << stay + 1);
        }
        // 0 - 1 - 3, 0 - 2 - 4: one pull of 0, or two if it is to stay
        KnitChronicle y = Pads.hung(-1, 0, 0, 1, 2);
        pulls(due, y, 24, 0, 1, 1);
        pulls(due, y, 24, 1, 2, 6);
        pulls(due, y, 24, 2, 2, 12);
        pulls(due, y, 24, 6, 2, 24);
    }

    // ---- promise 14

    static void p14ZeroIfThereAreNoStitches(Due due) {
        due.is("new", new KnitChronicle().pattern(), 0);
        KnitChronicle x = Pads.alone(3);
        x.cast();
        due.is("cast", x.pattern(), 0);
        KnitChronicle y = Pads.alone(1);
        Pads.does(y, "-A");
        due.is("pulled", y.pattern(), 0);
    }

    static void p14OneOrMore(Due due) {
        due.is("one stitch", Pads.row(3).pattern(), 1);
        due.is("two alike", Pads.row(3, 3).pattern(), 1);
        due.is("two others", Pads.row(3, 2).pattern(), 2);
        KnitChronicle x = Pads.row(3, 2);
        Pads.does(x, "*A*B");
        due.is("all eaten", x.pattern(), 1);
        due.is("24 alike", Pads.alone(24).pattern(), 1);
    }

    static void p14UpToAllOfIt(Due due) {
        for (int n = 2; n <= 24; n++) {
            KnitChronicle x = Pads.alone(n - 1);
            x.stitch(1, 5, -1);
            due.is("the last is another of " + n, x.pattern(), n);
            KnitChronicle y = Pads.row(1);
            for (int i = 1; i < n; i++) {
                y.stitch(0, 5, -1);
            }
            due.is("the first is another of " + n, y.pattern(), n);
        }
    }

    static void p14EachLengthUpTo24(Due due) {
        for (int p = 1; p <= 24; p++) {
            KnitChronicle x = new KnitChronicle();
            for (int i = 0; i < 24; i++) {
                x.stitch(i % p < 2 ? 3 - i % p : 0, 5, -1);
            }
            due.is("every " + p, x.pattern(), p);
        }
    }

    static void p14AnyTwoThatDifferByAMultiple(Due due) {
        // by two, C may be as A is, and as E is, for it is eaten; but A is not as E is
        KnitChronicle x = Pads.row(0, 1, 0, 1, 2);
        Pads.does(x, "*C");
        due.is("two apart twice", x.pattern(), 5);
    }

    static void p14OnlyThoseThatAreNotEaten(Due due) {
        KnitChronicle x = Pads.alone(23);
        x.stitch(1, 5, -1);
        Pads.does(x, "*X");
        due.is("the other one is eaten", x.pattern(), 1);
        Pads.does(x, "+Xa");
        due.is("mended", x.pattern(), 24);
        Pads.does(x, "*A");
        due.is("the one that it began with is eaten", x.pattern(), 23);
    }

    // ---- promise 15

    static void p15StitchesFrom0ToTheLast(Due due) {
        for (int n = 0; n <= 24; n++) {
            KnitChronicle x = Pads.alone(n);
            due.is("-1 of " + n, x.hole(-1), UNKNOWN);
            due.is("behind the last of " + n, x.hole(n), UNKNOWN);
            if (n > 1) {
                Pads.does(x, "*A");
                due.is("first of " + n, x.hole(0), 1);
                Pads.does(x, "+Aa*" + Pads.letter(n - 1));
                due.is("last of " + n, x.hole(n - 1), 1);
            }
        }
        for (int far : Pads.FAR) {
            due.is("hole " + far, Pads.alone(24).hole(far), UNKNOWN);
        }
    }

    static void p15StateIfItIsNotEaten(Due due) {
        KnitChronicle x = Pads.chain(24);
        Pads.does(x, "*B");
        due.is("first", x.hole(0), STATE);
        due.is("the eaten one", x.hole(1), 1);
        due.is("a loose one", x.hole(2), STATE);
        due.is("last", x.hole(23), STATE);
        Pads.does(x, "+Ba");
        due.is("mended", x.hole(1), STATE);
    }

    static void p15UnknownThenState(Due due) {
        due.is("no stitch is not eaten either", Pads.alone(2).hole(2), UNKNOWN);
        due.is("nor is -1", Pads.alone(2).hole(-1), UNKNOWN);
    }

    static void p15AllFourIfThereIsNone(Due due) {
        KnitChronicle one = Pads.row(2);
        Pads.does(one, "*A");
        due.is("no other one", one.hole(0), 15);
        KnitChronicle all = Pads.alone(24);
        Pads.does(all, Pads.toEach('*', 24));
        due.is("first of all eaten", all.hole(0), 15);
        due.is("last of all eaten", all.hole(23), 15);
        KnitChronicle apart = Pads.row(0, 1, 2, 0, 1);
        Pads.does(apart, "*C");
        due.is("none differs by a multiple of the pattern", apart.pattern() * 100 + apart.hole(2), 315);
    }

    static void p15TheColourOfOneAMultipleApart(Due due) {
        for (int colour = 0; colour < 4; colour++) {
            int other = 3 - colour;
            KnitChronicle x = Pads.row(colour, other, colour, other, colour);
            Pads.does(x, "*A*E");
            due.is("one behind it", x.hole(0), 1 << colour);
            due.is("one ahead of it", x.hole(4), 1 << colour);
            Pads.does(x, "*C");
            due.is("others alone are left", x.pattern() * 100 + x.hole(2), 100 + (1 << other));
        }
    }

    // ---- promise 16

    static void p16ImagesAre0And1(Due due) {
        for (int n = 0; n < 2; n++) {
            KnitChronicle x = Pads.alone(2);
            x.image(n);
            x.cast();
            due.is("rip " + n, x.rip(n), 2);
        }
        KnitChronicle x = Pads.alone(2);
        x.image(0);
        x.image(1);
        due.is("-1", x.rip(-1), OUTSIDE);
        due.is("2", x.rip(2), OUTSIDE);
        due.is("32", x.rip(32), OUTSIDE);
        for (int far : Pads.FAR) {
            due.is("image " + far, x.rip(far), OUTSIDE);
        }
    }

    static void p16StateIfItWasNotKept(Due due) {
        KnitChronicle x = Pads.alone(2);
        due.is("neither, 0", x.rip(0), STATE);
        due.is("neither, 1", x.rip(1), STATE);
        x.image(0);
        due.is("0 is kept", x.rip(0), 0);
        due.is("1 is not", x.rip(1), STATE);
        KnitChronicle y = Pads.alone(2);
        y.image(1);
        due.is("0 is not", y.rip(0), STATE);
        due.is("1 is kept", y.rip(1), 0);
    }

    static void p16OutsideThenState(Due due) {
        due.is("2 was not kept, either", new KnitChronicle().rip(2), OUTSIDE);
        due.is("nor was -1", new KnitChronicle().rip(-1), OUTSIDE);
    }

    private static int ripped(KnitChronicle kept, int[] now) {
        kept.image(1);
        kept.cast();
        for (int colour : now) {
            kept.stitch(colour, 0, -1);
        }
        return kept.rip(1);
    }

    static void p16WithoutStitches(Due due) {
        due.is("both empty", ripped(new KnitChronicle(), new int[0]), 0);
        due.is("nothing now", ripped(Pads.alone(24), new int[0]), 24);
        due.is("nothing kept", ripped(new KnitChronicle(), new int[24]), 24);
    }

    static void p16FromNoneToAll48(Due due) {
        due.is("alike", ripped(Pads.alone(24), new int[24]), 0);
        int[] others = new int[24];
        java.util.Arrays.fill(others, 3);
        due.is("no colour in common", ripped(Pads.alone(24), others), 48);
        others[0] = 0;
        due.is("the first alone", ripped(Pads.alone(24), others), 46);
        others[0] = 3;
        others[23] = 0;
        due.is("the last alone", ripped(Pads.alone(24), others), 46);
        due.is("one more", ripped(Pads.alone(23), new int[24]), 1);
        due.is("one less", ripped(Pads.alone(24), new int[23]), 1);
    }

    static void p16AskedAgain(Due due) {
        KnitChronicle x = Pads.alone(24);
        x.image(0);
        due.is("alike", x.rip(0), 0);
        x.cast();
        due.is("nothing now", x.rip(0), 24);
        x.stitch(3, 0, -1);
        due.is("another colour", x.rip(0), 25);
        x.image(1);
        due.is("the other image", x.rip(1), 0);
        x.stitch(0, 0, -1);
        due.is("one in common", x.rip(0), 24);
        due.is("one more than in the other", x.rip(1), 1);
    }

    static void p16OnlyColoursMatter(Due due) {
        KnitChronicle x = Pads.chain(3);
        x.image(0);
        x.cast();
        x.stitch(0, 9, -1);
        x.stitch(0, 0, -1);
        x.stitch(0, 3, 0);
        Pads.does(x, "*A*C");
        due.is("other tights, hangings, eaten ones", x.rip(0), 0);
    }

    // ---- promise 17

    private static void hold(Due due, KnitChronicle x, int k, int tight, int first) {
        due.is("tight by " + k, x.hold(k, 0), tight);
        due.is("first of " + k, x.hold(k, 1), first);
    }

    static void p17WearersFrom1To9(Due due) {
        int[] tight = {216, 108, 72, 54, 45, 36, 36, 27, 27};
        int[] first = {24, 12, 8, 6, 4, 4, 0, 3, 0};
        KnitChronicle x = new KnitChronicle();
        for (int i = 0; i < 24; i++) {
            x.stitch(0, 9, -1);
        }
        for (int k = 1; k <= 9; k++) {
            hold(due, x, k, tight[k - 1], first[k - 1]);
        }
        hold(due, x, 0, OUTSIDE, OUTSIDE);
        hold(due, x, -1, OUTSIDE, OUTSIDE);
        hold(due, x, 10, OUTSIDE, OUTSIDE);
        for (int far : Pads.FAR) {
            hold(due, x, far, OUTSIDE, OUTSIDE);
        }
    }

    static void p17WhatIs0Or1(Due due) {
        KnitChronicle x = Pads.alone(3);
        hold(due, x, 1, 15, 3);
        due.is("-1", x.hold(1, -1), OUTSIDE);
        due.is("2", x.hold(1, 2), OUTSIDE);
        for (int far : Pads.FAR) {
            due.is("what " + far, x.hold(1, far), OUTSIDE);
        }
    }

    static void p17NoStitches(Due due) {
        for (int k = 1; k <= 9; k++) {
            hold(due, new KnitChronicle(), k, 0, 0);
        }
    }

    static void p17SomePerhapsNone(Due due) {
        hold(due, Pads.tights(7), 1, 7, 1);
        hold(due, Pads.tights(7), 2, 7, 0);
        hold(due, Pads.tights(7), 9, 7, 0);
        hold(due, Pads.alone(8), 8, 5, 1);
        hold(due, Pads.alone(8), 9, 5, 0);
        hold(due, Pads.alone(9), 9, 5, 1);
    }

    static void p17TightByNothing(Due due) {
        KnitChronicle x = new KnitChronicle();
        for (int i = 0; i < 24; i++) {
            x.stitch(0, 0, -1);
        }
        hold(due, x, 1, 0, 24);
        hold(due, x, 2, 0, 0);
        hold(due, x, 9, 0, 0);
        hold(due, Pads.tights(0, 0, 4), 2, 4, 0);
        hold(due, Pads.tights(4, 0, 0), 2, 4, 0);
    }

    static void p17TheFirstOneHoldsTheFewest(Due due) {
        hold(due, Pads.tights(1, 1, 1, 9), 2, 9, 3);
        hold(due, Pads.tights(1, 1, 1, 9), 3, 9, 0);
        hold(due, Pads.tights(9, 1, 1, 1), 2, 9, 1);
        hold(due, Pads.tights(9, 1, 1, 9, 1), 3, 10, 1);
    }

    // ---- promise 18

    private static void hands(Due due, KnitChronicle x, int changes, int... row) {
        due.is("changes", x.hands(), changes);
        for (int i = 0; i < row.length; i++) {
            due.is("who knit " + i, x.who(i), row[i]);
        }
    }

    static void p18ZeroIfThereAreNoStitches(Due due) {
        hands(due, new KnitChronicle(), 0);
        KnitChronicle x = Pads.knitters(Pads.tights(9), 0, 0, 0, 0);
        due.is("it can not be", x.hands(), NONE);
        x.cast();
        due.is("no stitches", x.hands(), 0);
    }

    static void p18ByOneAtMost(Due due) {
        for (int tight = 0; tight < 10; tight++) {
            for (int his = 0; his < 10; his++) {
                boolean fits = Math.abs(tight - his) <= 1;
                int far = tight < 5 ? 9 : 0;
                for (int k = 0; k < 4; k++) {
                    KnitChronicle x = Pads.knitters(Pads.tights(tight), far, far, far, far);
                    x.knitter(k, his);
                    hands(due, x, fits ? 0 : NONE, fits ? k : NONE);
                }
            }
        }
    }

    static void p18NoneIfOneCanNotBe(Due due) {
        for (int bad = 0; bad < 24; bad += 23) {
            KnitChronicle x = new KnitChronicle();
            for (int i = 0; i < 24; i++) {
                x.stitch(0, i == bad ? 3 : 5, -1);
            }
            due.is("hands", x.hands(), NONE);
            due.is("first", x.who(0), NONE);
            due.is("last", x.who(23), NONE);
        }
    }

    static void p18EatenOnesToo(Due due) {
        KnitChronicle x = Pads.tights(5, 2, 5);
        Pads.does(x, "*B");
        hands(due, x, NONE, NONE, NONE, NONE);
        x.knitter(2, 1);
        hands(due, x, 2, 0, 2, 0);
    }

    static void p18FromNoneTo23Changes(Due due) {
        due.is("none", Pads.alone(24).hands(), 0);
        KnitChronicle x = Pads.knitters(new KnitChronicle(), 0, 9, 0, 9);
        for (int i = 0; i < 24; i++) {
            x.stitch(0, i % 2 == 0 ? 1 : 8, -1);
        }
        due.is("23", x.hands(), 23);
        due.is("first", x.who(0), 0);
        due.is("last", x.who(23), 1);
        hands(due, Pads.tights(5), 0, 0);
    }

    // ---- promise 19

    static void p19StitchesFrom0ToTheLast(Due due) {
        for (int n = 0; n <= 24; n++) {
            KnitChronicle x = Pads.alone(n);
            due.is("-1 of " + n, x.who(-1), UNKNOWN);
            due.is("behind the last of " + n, x.who(n), UNKNOWN);
            if (n > 0) {
                due.is("first of " + n, x.who(0), 0);
                due.is("last of " + n, x.who(n - 1), 0);
            }
        }
        for (int far : Pads.FAR) {
            due.is("who " + far, Pads.alone(24).who(far), UNKNOWN);
        }
    }

    static void p19UnknownThenNone(Due due) {
        KnitChronicle x = Pads.tights(9);
        due.is("it can not be", x.who(0), NONE);
        due.is("there is no such one", x.who(1), UNKNOWN);
        due.is("nor -1", x.who(-1), UNKNOWN);
    }

    static void p19Stitch0sLeastThenStitch1s(Due due) {
        hands(due, Pads.knitters(Pads.tights(3, 4), 5, 4, 3, 2), 0, 1, 1);
        // a row's changes come ahead of its knitters' numbers
        hands(due, Pads.knitters(Pads.tights(3, 5), 2, 9, 9, 4), 0, 3, 3);
        // one change, and it may come sooner or later
        hands(due, Pads.knitters(Pads.tights(1, 2, 3, 4), 2, 3, 9, 9), 1, 0, 0, 0, 1);
        hands(due, Pads.knitters(Pads.tights(1, 2, 3, 4), 3, 2, 9, 9), 1, 1, 0, 0, 0);
        // all four could be
        hands(due, Pads.knitters(Pads.tights(5, 5), 4, 5, 6, 5), 0, 0, 0);
        hands(due, Pads.knitters(Pads.tights(5, 5), 9, 9, 9, 6), 0, 3, 3);
    }
}
