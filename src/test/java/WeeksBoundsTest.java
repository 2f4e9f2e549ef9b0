/** Part 2 of the terms, why an act can not be, and promises 8 to 11: a test for each sentence that names a bound. */
final class WeeksBoundsTest {
    private static final int NONE = -6, UNKNOWN = -1, OUTSIDE = -2, NO = -5;
    /** 29 acts and 58 signs: all 24 alone are eaten, and the first five pulled, so that A to S are left. */
    private static final String ACTS_29 = Pads.toEach('*', 24) + "-A-A-A-A-A";

    public static void main(String[] args) throws IllegalAccessException {
        Sentences.run(WeeksBoundsTest.class);
    }

    private static void judged(Due due, KnitChronicle x, String text, int act, int why) {
        Pads.write(x, text);
        due.is("which act of " + text, x.judge(0), act);
        due.is("why of " + text, x.judge(1), why);
    }

    // ---- why an act can not be

    static void t1ReasonOneThereIsNoSuchStitch(Due due) {
        for (int n = 0; n < 24; n++) {
            for (String act : new String[] {"-", "*"}) {
                judged(due, Pads.alone(n), act + Pads.letter(n), 0, 1);
                judged(due, Pads.alone(n + 1), act + Pads.letter(n), NONE, NONE);
            }
            judged(due, Pads.alone(n), "+" + Pads.letter(n) + "a", 0, 1);
            KnitChronicle x = Pads.alone(n + 1);
            Pads.does(x, "*" + Pads.letter(n));
            judged(due, x, "+" + Pads.letter(n) + "a", NONE, NONE);
        }
    }

    static void t1ReasonTwoThereAre24Already(Due due) {
        judged(due, Pads.alone(24), "a0", 0, 2);
        judged(due, Pads.alone(24), "d3", 0, 2);
        judged(due, Pads.alone(23), "a0", NONE, NONE);
        judged(due, Pads.alone(23), "a0a0", 1, 2);
        judged(due, new KnitChronicle(), "a0".repeat(24), NONE, NONE);
        judged(due, new KnitChronicle(), "a0".repeat(25), 24, 2);
    }

    static void t1ReasonTwoIsForKnittingAlone(Due due) {
        judged(due, Pads.alone(24), "-A", NONE, NONE);
        judged(due, Pads.alone(24), "*X", NONE, NONE);
        judged(due, Pads.alone(24), "*X+Xd", NONE, NONE);
        judged(due, Pads.alone(24), "-Xa0", NONE, NONE);
    }

    static void t1ReasonThreeItIsEatenAlready(Due due) {
        KnitChronicle x = Pads.alone(24);
        judged(due, x, "*A*A", 1, 3);
        judged(due, x, "*X*X", 1, 3);
        Pads.does(x, "*A*X");
        judged(due, x, "*A", 0, 3);
        judged(due, x, "*X", 0, 3);
        judged(due, x, "*B", NONE, NONE);
        judged(due, x, "+Aa*A", NONE, NONE);
    }

    static void t1ReasonThreeItIsNotEaten(Due due) {
        KnitChronicle x = Pads.alone(24);
        judged(due, x, "+Aa", 0, 3);
        judged(due, x, "+Xd", 0, 3);
        judged(due, x, "*A+Ba", 1, 3);
        judged(due, x, "*A+Aa+Aa", 2, 3);
        judged(due, x, "*X+Xd", NONE, NONE);
    }

    static void t1ReasonThreeIsNotForALooseOne(Due due) {
        KnitChronicle x = Pads.chain(2);
        Pads.does(x, "*A");
        judged(due, x, "*B", NONE, NONE);
        judged(due, x, "+Ba", 0, 3);
    }

    static void t1AnEatenOneMayBePulled(Due due) {
        KnitChronicle x = Pads.alone(2);
        Pads.does(x, "*A");
        judged(due, x, "-A", NONE, NONE);
        due.is("one whole one is left", x.behind(0) * 10 + x.behind(1), 10);
    }

    static void t1TheLeastOfTheReasons(Due due) {
        // one that is not there is not eaten, either
        judged(due, new KnitChronicle(), "+Aa", 0, 1);
        judged(due, Pads.alone(23), "+Xa", 0, 1);
        // one that was eaten and is no more
        KnitChronicle x = Pads.alone(1);
        judged(due, x, "*A-A*A", 2, 1);
        judged(due, x, "*A-A+Aa", 2, 1);
    }

    // ---- promise 8

    static void p8WhatIs0Or1(Due due) {
        KnitChronicle x = new KnitChronicle();
        Pads.write(x, "a0-B");
        due.is("0", x.judge(0), 1);
        due.is("1", x.judge(1), 1);
        due.is("-1", x.judge(-1), OUTSIDE);
        due.is("2", x.judge(2), OUTSIDE);
        for (int far : Pads.FAR) {
            due.is("what " + far, x.judge(far), OUTSIDE);
        }
    }

    static void p8NoneOfAnEmptyPad(Due due) {
        judged(due, new KnitChronicle(), "", NONE, NONE);
        judged(due, Pads.alone(24), "", NONE, NONE);
    }

    static void p8NoneIfAllCanBe(Due due) {
        judged(due, new KnitChronicle(), "a0", NONE, NONE);
        judged(due, Pads.alone(24), ACTS_29 + "-S", NONE, NONE);
    }

    static void p8TheFirstActThatCanNotBe(Due due) {
        judged(due, new KnitChronicle(), "-A", 0, 1);
        judged(due, new KnitChronicle(), "-A-B-C", 0, 1);
        judged(due, new KnitChronicle(), "a0+Aa-B", 1, 3);
        judged(due, new KnitChronicle(), "a0*A+Aa*A+Aa-B", 5, 1);
        judged(due, Pads.alone(24), ACTS_29 + "-T", 29, 1);
        judged(due, Pads.alone(24), ACTS_29 + "*S", 29, 3);
        judged(due, new KnitChronicle(), "a0".repeat(30), 24, 2);
    }

    static void p8NoIfThereIsAFault(Due due) {
        for (String text : new String[] {"a", "e", "a0-", "a0a", "-A+", "+A", "a0".repeat(29) + "a4", "+Xd".repeat(19) + "-Aa"}) {
            judged(due, Pads.alone(1), text, NO, NO);
        }
    }

    static void p8OutsideThenNo(Due due) {
        KnitChronicle x = new KnitChronicle();
        Pads.write(x, "a");
        due.is("-1", x.judge(-1), OUTSIDE);
        due.is("2", x.judge(2), OUTSIDE);
        Pads.write(x, "");
        due.is("and ahead of NONE", x.judge(2), OUTSIDE);
    }

    static void p8NothingIsDone(Due due) {
        KnitChronicle x = Pads.alone(2);
        judged(due, x, "-A*Aa3", NONE, NONE);
        due.is("two", x.told(1), 2);
        due.is("none eaten", x.told(2), 0);
        due.is("the pad", x.told(0), 6);
    }

    // ---- promise 9

    static void p9NoActsOnAnEmptyPad(Due due) {
        KnitChronicle x = Pads.chain(3);
        String before = Pads.all(x);
        due.is("none", x.done(), 0);
        due.same("nothing is changed", Pads.all(x), before);
    }

    static void p9AllOfAFullPad(Due due) {
        KnitChronicle x = Pads.alone(24);
        due.is("30 acts", Pads.does(x, ACTS_29 + "-S"), 30);
        due.is("pad", x.told(0), 0);
        due.is("stitches", x.told(1), 18);
        due.is("eaten", x.told(2), (1 << 18) - 1);
        KnitChronicle y = Pads.alone(1);
        due.is("24 acts", Pads.does(y, "*A+Aa".repeat(12)), 24);
        due.is("none eaten", y.told(2), 0);
        due.is("the pad is empty then", y.done(), 0);
    }

    static void p9UpTo24(Due due) {
        KnitChronicle x = new KnitChronicle();
        due.is("24 acts", Pads.does(x, "b2".repeat(24)), 24);
        due.is("24 stitches", x.told(1), 24);
        due.is("X on W", x.told(2402), 22);
    }

    static void p9NoIfThereIsAFault(Due due) {
        KnitChronicle x = Pads.chain(2);
        Pads.write(x, "-B-");
        String before = Pads.all(x);
        due.is("done", x.done(), NO);
        due.same("nothing is changed", Pads.all(x), before);
    }

    static void p9NoIfAnActCanNotBe(Due due) {
        KnitChronicle x = Pads.chain(2);
        Pads.write(x, "-B*Aa1-C");
        String before = Pads.all(x);
        due.is("done", x.done(), NO);
        due.same("nothing is changed, not by the acts ahead of it", Pads.all(x), before);
        KnitChronicle y = Pads.alone(24);
        due.is("the 30th can not be", Pads.does(y, ACTS_29 + "-T"), NO);
        due.is("none was done", y.told(1), 24);
        due.is("60 signs stay", y.told(0), 60);
    }

    // ---- promise 10

    private static void behind(Due due, KnitChronicle x, String text, int count, int eaten, int loose, int most) {
        Pads.write(x, text);
        due.is("how many behind " + text, x.behind(0), count);
        due.is("eaten behind " + text, x.behind(1), eaten);
        due.is("loose behind " + text, x.behind(2), loose);
        due.is("most undone behind " + text, x.behind(3), most);
    }

    static void p10WhatFrom0To3(Due due) {
        KnitChronicle x = Pads.hung(-1, 0, 1, -1, -1, 4);
        behind(due, x, "*A-E", 4, 1, 6, 2);
        due.is("-1", x.behind(-1), OUTSIDE);
        due.is("4", x.behind(4), OUTSIDE);
        for (int far : Pads.FAR) {
            due.is("what " + far, x.behind(far), OUTSIDE);
        }
    }

    static void p10BehindAnEmptyPad(Due due) {
        behind(due, new KnitChronicle(), "", 0, 0, 0, 0);
        KnitChronicle x = Pads.chain(3);
        Pads.does(x, "*A");
        behind(due, x, "", 3, 1, 6, 0);
    }

    static void p10HowManyFrom0To24(Due due) {
        behind(due, new KnitChronicle(), "a0".repeat(24), 24, 0, 0, 0);
        behind(due, Pads.chain(24), "-A", 0, 0, 0, 24);
        behind(due, Pads.alone(23), "a3", 24, 0, 0, 0);
    }

    static void p10AllEatenAllLoose(Due due) {
        behind(due, Pads.alone(24), Pads.toEach('*', 24), 24, Pads.ALL, 0, 0);
        behind(due, Pads.chain(24), Pads.toEach('*', 24), 24, Pads.ALL, Pads.ALL - 1, 0);
        behind(due, Pads.chain(24), "*A", 24, 1, Pads.ALL - 1, 0);
        behind(due, Pads.chain(24), "*X", 24, 1 << 23, 0, 0);
        behind(due, Pads.chain(24), "*W", 24, 1 << 22, 1 << 23, 0);
    }

    static void p10TheMostUndoneIs0WithoutAPull(Due due) {
        behind(due, Pads.chain(3), "*A+Aa*Ba0", 4, 2, 12, 0);
    }

    static void p10TheMostThatOneActUndid(Due due) {
        behind(due, Pads.alone(1), "-A", 0, 0, 0, 1);
        behind(due, Pads.hung(-1, 0, 1, -1), "-A-A", 0, 0, 0, 3);
        behind(due, Pads.hung(-1, -1, 1, 2), "-A-A", 0, 0, 0, 3);
        behind(due, Pads.chain(24), "-X-A", 0, 0, 0, 23);
        behind(due, Pads.chain(24), "-Aa0-A", 0, 0, 0, 24);
        behind(due, Pads.alone(24), "-A".repeat(24), 0, 0, 0, 1);
    }

    static void p10NoAsOfDone(Due due) {
        for (String text : new String[] {"a", "e", "a0-", "-B", "a0a0+Ba", "a0".repeat(30)}) {
            behind(due, Pads.alone(1), text, NO, NO, NO, NO);
        }
    }

    static void p10OutsideThenNo(Due due) {
        for (String text : new String[] {"a", "-B"}) {
            KnitChronicle x = Pads.alone(1);
            Pads.write(x, text);
            due.is("-1 of " + text, x.behind(-1), OUTSIDE);
            due.is("4 of " + text, x.behind(4), OUTSIDE);
        }
    }

    static void p10NotBeingDone(Due due) {
        KnitChronicle x = Pads.chain(3);
        behind(due, x, "-B", 1, 0, 0, 2);
        behind(due, x, "-B", 1, 0, 0, 2);
        due.is("three", x.told(1), 3);
    }

    // ---- promise 11

    static void p11WhatFrom0To2(Due due) {
        KnitChronicle x = new KnitChronicle();
        x.stitch(3, 9, -1);
        x.stitch(0, 0, 0);
        int[][] want = {{3, 9, NONE}, {0, 0, 0}};
        for (int stitch = 0; stitch < 2; stitch++) {
            for (int what = 0; what < 3; what++) {
                due.is("of " + stitch + " " + what, x.of(stitch, what), want[stitch][what]);
            }
        }
        due.is("-1", x.of(0, -1), OUTSIDE);
        due.is("3", x.of(0, 3), OUTSIDE);
        for (int far : Pads.FAR) {
            due.is("what " + far, x.of(0, far), OUTSIDE);
        }
    }

    static void p11StitchesFrom0ToTheLast(Due due) {
        for (int n = 0; n <= 24; n++) {
            KnitChronicle x = Pads.chain(n);
            for (int what = 0; what < 3; what++) {
                due.is("-1 of " + n, x.of(-1, what), UNKNOWN);
                due.is("behind the last of " + n, x.of(n, what), UNKNOWN);
            }
            if (n > 0) {
                due.is("first of " + n, x.of(0, 2), NONE);
                due.is("last of " + n, x.of(n - 1, 2), n == 1 ? NONE : n - 2);
            }
        }
        for (int far : Pads.FAR) {
            due.is("stitch " + far, Pads.alone(24).of(far, 0), UNKNOWN);
        }
    }

    static void p11UnknownBehindThat(Due due) {
        KnitChronicle x = Pads.alone(2);
        Pads.write(x, "-A");
        due.is("B is A behind it", x.of(0, 0), 0);
        due.is("B is there now alone", x.of(1, 0), UNKNOWN);
        Pads.write(x, "a3");
        due.is("C is there behind it alone", x.of(2, 0), 3);
        due.is("D is not", x.of(3, 0), UNKNOWN);
        Pads.write(x, "-A-A");
        due.is("none is left", x.of(0, 0), UNKNOWN);
        KnitChronicle y = Pads.alone(23);
        Pads.write(y, "d3");
        due.is("the 24th", y.of(23, 0), 3);
        due.is("the 25th", y.of(24, 0), UNKNOWN);
    }

    static void p11NoLikewise(Due due) {
        for (String text : new String[] {"a", "e", "a0-", "-B", "a0".repeat(30)}) {
            KnitChronicle x = Pads.alone(1);
            Pads.write(x, text);
            for (int what = 0; what < 3; what++) {
                due.is("of 0 " + what + " of " + text, x.of(0, what), NO);
            }
        }
    }

    static void p11OutsideThenNoThenUnknown(Due due) {
        for (String text : new String[] {"a", "-B"}) {
            KnitChronicle x = Pads.alone(1);
            Pads.write(x, text);
            due.is("outside and no", x.of(0, 3), OUTSIDE);
            due.is("outside, no and unknown", x.of(24, -1), OUTSIDE);
            due.is("no and unknown", x.of(24, 0), NO);
            due.is("no and unknown, -1", x.of(-1, 2), NO);
        }
        due.is("outside and unknown", new KnitChronicle().of(0, 3), OUTSIDE);
        due.is("outside and unknown, -1", new KnitChronicle().of(-1, -1), OUTSIDE);
    }
}
