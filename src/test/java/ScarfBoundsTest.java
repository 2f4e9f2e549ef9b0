/** Part 1 of the terms and promises 1 to 7: a test for each sentence that names where something begins or ends. */
final class ScarfBoundsTest {
    private static final int NONE = -6, UNKNOWN = -1, OUTSIDE = -2, STATE = -3, FULL = -4, NO = -5;

    public static void main(String[] args) throws IllegalAccessException {
        Sentences.run(ScarfBoundsTest.class);
    }

    // ---- promise 1, and "none at first", "5 at first"

    static void p1NoStitchesAtFirst(Due due) {
        due.is("told 1", new KnitChronicle().told(1), 0);
        due.is("eaten", new KnitChronicle().told(2), 0);
        due.is("loose", new KnitChronicle().told(4), 0);
        due.is("cast", new KnitChronicle().cast(), 0);
        due.is("pull", new KnitChronicle().pull(0), UNKNOWN);
        due.is("told 100", new KnitChronicle().told(100), OUTSIDE);
        due.is("the first one", new KnitChronicle().stitch(0, 0, -1), 1);
    }

    static void p1EachKnitterKnitsFiveAtFirst(Due due) {
        for (int k = 0; k < 4; k++) {
            due.is("told " + (10 + k), new KnitChronicle().told(10 + k), 5);
            due.is("was " + k, new KnitChronicle().knitter(k, 9), 5);
            KnitChronicle x = new KnitChronicle();
            due.is("knits", Pads.does(x, (char) ('a' + k) + "0"), 1);
            due.is("knitted by " + k, x.told(101), 5);
        }
    }

    static void p1NoSignsAtFirst(Due due) {
        due.is("told 0", new KnitChronicle().told(0), 0);
        due.is("wipe", new KnitChronicle().wipe(), 0);
        due.is("fault", new KnitChronicle().fault(), NONE);
        due.is("done", new KnitChronicle().done(), 0);
    }

    static void p1NoSightsAtFirst(Due due) {
        due.is("told 3", new KnitChronicle().told(3), 0);
        due.is("forget", new KnitChronicle().forget(), 0);
        due.is("tights", new KnitChronicle().tights(), 1023);
    }

    static void p1NoImageIsKeptAtFirst(Due due) {
        for (int n = 0; n < 2; n++) {
            due.is("rip " + n, new KnitChronicle().rip(n), STATE);
            due.is("restore " + n, new KnitChronicle().restore(n), STATE);
        }
    }

    static void p1ObjectsShareNothing(Due due) {
        KnitChronicle x = Pads.chain(3);
        KnitChronicle y = new KnitChronicle();
        x.image(0);
        x.knitter(0, 9);
        x.seen(0, true);
        Pads.write(x, "-");
        due.same("another object", Pads.all(y), Pads.all(new KnitChronicle()));
    }

    static void p1For512Calls(Due due) {
        KnitChronicle x = new KnitChronicle();
        for (int call = 1; call <= 24; call++) {
            x.stitch(call % 4, call % 10, call - 2);
        }
        for (int call = 25; call <= 511; call++) {
            due.is("call " + call, x.told(2402), 22);
        }
        due.is("the 512th", x.cast(), 24);
    }

    // ---- promise 2

    static void p2ColourFrom0To3(Due due) {
        for (int colour = 0; colour < 4; colour++) {
            KnitChronicle x = new KnitChronicle();
            due.is("colour " + colour, x.stitch(colour, 5, -1), 1);
            due.is("told", x.told(100), colour);
        }
        due.is("colour -1", new KnitChronicle().stitch(-1, 5, -1), OUTSIDE);
        due.is("colour 4", new KnitChronicle().stitch(4, 5, -1), OUTSIDE);
        for (int far : Pads.FAR) {
            due.is("colour " + far, new KnitChronicle().stitch(far, 5, -1), OUTSIDE);
        }
    }

    static void p2TightFrom0To9(Due due) {
        for (int tight = 0; tight < 10; tight++) {
            KnitChronicle x = new KnitChronicle();
            due.is("tight " + tight, x.stitch(3, tight, -1), 1);
            due.is("told", x.told(101), tight);
        }
        due.is("tight -1", new KnitChronicle().stitch(3, -1, -1), OUTSIDE);
        due.is("tight 10", new KnitChronicle().stitch(3, 10, -1), OUTSIDE);
        for (int far : Pads.FAR) {
            due.is("tight " + far, new KnitChronicle().stitch(3, far, -1), OUTSIDE);
        }
    }

    static void p2OnNoneIsMinusOne(Due due) {
        KnitChronicle x = new KnitChronicle();
        due.is("first on none", x.stitch(1, 1, -1), 1);
        due.is("told of it", x.told(102), NONE);
        due.is("second on none", x.stitch(1, 1, -1), 2);
        due.is("told of that", x.told(202), NONE);
        due.is("-2 is no stitch", x.stitch(1, 1, -2), UNKNOWN);
        due.is("nor is NONE", x.stitch(1, 1, NONE), UNKNOWN);
        for (int far : Pads.FAR) {
            due.is("on " + far, x.stitch(1, 1, far), UNKNOWN);
        }
    }

    static void p2OnAnyAheadOfItButNotItself(Due due) {
        due.is("the first on itself", new KnitChronicle().stitch(0, 0, 0), UNKNOWN);
        for (int n = 1; n < 24; n++) {
            for (int on = 0; on < n; on += Math.max(1, n - 1)) {
                KnitChronicle x = Pads.alone(n);
                due.is(n + " on " + on, x.stitch(0, 0, on), n + 1);
                due.is("told", x.told(100 * (n + 1) + 2), on);
            }
            due.is(n + " on itself", Pads.alone(n).stitch(0, 0, n), UNKNOWN);
            due.is(n + " on one behind it", Pads.alone(n).stitch(0, 0, n + 1), UNKNOWN);
        }
    }

    static void p2OnOneThatIsEatenItIsLoose(Due due) {
        KnitChronicle x = Pads.alone(1);
        Pads.does(x, "*A");
        due.is("on an eaten one", x.stitch(0, 0, 0), 2);
        due.is("loose", x.told(4), 2);
        due.is("not eaten", x.told(2), 1);
        due.is("on a loose one", x.stitch(0, 0, 1), 3);
        due.is("loose too", x.told(4), 6);
    }

    static void p2HowManyUpTo24(Due due) {
        KnitChronicle x = new KnitChronicle();
        for (int n = 1; n <= 24; n++) {
            due.is("stitch " + n, x.stitch(0, 0, -1), n);
        }
        due.is("one more", x.stitch(0, 0, -1), FULL);
        due.is("one more on the last", x.stitch(3, 9, 23), FULL);
        due.is("24", x.told(1), 24);
    }

    static void p2UnknownThenOutsideThenFull(Due due) {
        KnitChronicle x = Pads.alone(24);
        due.is("unknown and outside", new KnitChronicle().stitch(4, 10, 0), UNKNOWN);
        due.is("unknown and full", x.stitch(0, 0, 24), UNKNOWN);
        due.is("unknown and full, -2", x.stitch(0, 0, -2), UNKNOWN);
        due.is("colour and full", x.stitch(4, 0, -1), OUTSIDE);
        due.is("tight and full", x.stitch(0, 10, 23), OUTSIDE);
        due.is("all three", x.stitch(-1, -1, 24), UNKNOWN);
    }

    static void p2RoomAgainWhenOneIsGone(Due due) {
        KnitChronicle x = Pads.alone(24);
        Pads.does(x, "-X");
        due.is("after a pull", x.stitch(0, 0, -1), 24);
        due.is("full again", x.stitch(0, 0, -1), FULL);
        x.cast();
        due.is("after cast", x.stitch(0, 0, -1), 1);
    }

    // ---- promise 3

    static void p3CastNone(Due due) {
        KnitChronicle x = new KnitChronicle();
        due.is("none", x.cast(), 0);
        due.same("nothing is changed", Pads.all(x), Pads.all(new KnitChronicle()));
    }

    static void p3CastAll24(Due due) {
        KnitChronicle x = Pads.chain(24);
        Pads.does(x, Pads.toEach('*', 24));
        due.is("24", x.cast(), 24);
        due.same("as a new one", Pads.all(x), Pads.all(new KnitChronicle()));
        due.is("none more", x.cast(), 0);
        due.is("a stitch is whole again", x.stitch(0, 0, -1), 1);
        due.is("not eaten", x.told(2), 0);
    }

    static void p3CastTakesTheScarfAlone(Due due) {
        KnitChronicle x = Pads.chain(2);
        x.knitter(0, 8);
        x.seen(9, true);
        x.image(1);
        x.say('a');
        due.is("cast", x.cast(), 2);
        due.is("knitter", x.told(10), 8);
        due.is("sights", x.told(3), 1);
        due.is("tights", x.tights(), 768);
        due.is("image", x.rip(1), 2);
        due.is("pad", x.told(0), 1);
    }

    // ---- promise 4

    static void p4KnittersFrom0To3(Due due) {
        for (int k = 0; k < 4; k++) {
            KnitChronicle x = new KnitChronicle();
            due.is("knitter " + k, x.knitter(k, 7), 5);
            for (int other = 0; other < 4; other++) {
                due.is("told of " + other, x.told(10 + other), other == k ? 7 : 5);
            }
        }
        due.is("knitter -1", new KnitChronicle().knitter(-1, 7), UNKNOWN);
        due.is("knitter 4", new KnitChronicle().knitter(4, 7), UNKNOWN);
        for (int far : Pads.FAR) {
            due.is("knitter " + far, new KnitChronicle().knitter(far, 7), UNKNOWN);
        }
    }

    static void p4TightFrom0To9(Due due) {
        KnitChronicle x = new KnitChronicle();
        int was = 5;
        for (int tight = 0; tight < 10; tight++) {
            due.is("tight " + tight, x.knitter(3, tight), was);
            due.is("told", x.told(13), tight);
            was = tight;
        }
        due.is("tight -1", x.knitter(3, -1), OUTSIDE);
        due.is("tight 10", x.knitter(3, 10), OUTSIDE);
        for (int far : Pads.FAR) {
            due.is("tight " + far, x.knitter(3, far), OUTSIDE);
        }
        due.is("still", x.told(13), 9);
    }

    static void p4UnknownThenOutside(Due due) {
        due.is("4 and 10", new KnitChronicle().knitter(4, 10), UNKNOWN);
        due.is("-1 and -1", new KnitChronicle().knitter(-1, -1), UNKNOWN);
    }

    static void p4WhatIsKnittedStaysAsItIs(Due due) {
        KnitChronicle x = Pads.tights(5);
        Pads.does(x, "a0");
        x.knitter(0, 9);
        due.is("told in", x.told(101), 5);
        due.is("knitted", x.told(201), 5);
    }

    // ---- promise 5

    static void p5SignsFrom33To126(Due due) {
        for (int sign = 33; sign <= 126; sign++) {
            due.is("sign " + sign, new KnitChronicle().say(sign), 1);
        }
        due.is("sign 32", new KnitChronicle().say(32), OUTSIDE);
        due.is("sign 127", new KnitChronicle().say(127), OUTSIDE);
        due.is("sign 0", new KnitChronicle().say(0), OUTSIDE);
        due.is("sign -1", new KnitChronicle().say(-1), OUTSIDE);
        due.is("an a and 65536", new KnitChronicle().say('a' + 65536), OUTSIDE);
        for (int far : Pads.FAR) {
            due.is("sign " + far, new KnitChronicle().say(far), OUTSIDE);
        }
    }

    static void p5HowManyUpTo60(Due due) {
        KnitChronicle x = new KnitChronicle();
        for (int n = 1; n <= 60; n++) {
            due.is("sign " + n, x.say(n % 2 == 0 ? 126 : 33), n);
        }
        due.is("one more", x.say('a'), FULL);
        due.is("60", x.told(0), 60);
    }

    static void p5OutsideThenFull(Due due) {
        KnitChronicle x = new KnitChronicle();
        Pads.write(x, "a0".repeat(30));
        due.is("32 and full", x.say(32), OUTSIDE);
        due.is("127 and full", x.say(127), OUTSIDE);
    }

    static void p5RoomAgain(Due due) {
        KnitChronicle x = new KnitChronicle();
        Pads.write(x, "a0-A".repeat(15));
        due.is("full", x.say('a'), FULL);
        due.is("wiped", x.wipe(), 60);
        due.is("after wipe", x.say('a'), 1);
        Pads.write(x, "a0-A".repeat(15));
        due.is("done", x.done(), 30);
        due.is("after done", x.say('a'), 1);
    }

    // ---- promise 6

    static void p6WipeNone(Due due) {
        due.is("none", new KnitChronicle().wipe(), 0);
    }

    static void p6WipeAll60(Due due) {
        KnitChronicle x = new KnitChronicle();
        Pads.write(x, "~".repeat(60));
        due.is("60", x.wipe(), 60);
        due.is("told", x.told(0), 0);
        due.is("no fault is left", x.fault(), NONE);
        due.is("none more", x.wipe(), 0);
    }

    static void p6WipeTakesThePadAlone(Due due) {
        KnitChronicle x = Pads.chain(3);
        Pads.does(x, "*B");
        x.knitter(1, 2);
        x.seen(1, false);
        x.image(0);
        String before = Pads.all(x);
        x.say('-');
        due.is("wipe", x.wipe(), 1);
        due.same("all else", Pads.all(x), before);
    }

    // ---- promise 7, THE FAULT

    private static int faultOf(String text) {
        KnitChronicle x = new KnitChronicle();
        Pads.write(x, text);
        return x.fault();
    }

    static void p7AnEmptyPadHasNone(Due due) {
        due.is("new", new KnitChronicle().fault(), NONE);
        KnitChronicle x = new KnitChronicle();
        Pads.write(x, "e");
        x.wipe();
        due.is("wiped", x.fault(), NONE);
        Pads.does(x, "a0");
        due.is("done", x.fault(), NONE);
    }

    static void p7AnActBeginsWithAKnittersLetterOrASign(Due due) {
        for (char sign = 33; sign <= 126; sign++) {
            boolean begins = "abcd-*+".indexOf(sign) >= 0;
            due.is("first " + sign, faultOf("" + sign), begins ? 1 : 0);
            due.is("third " + sign, faultOf("a0" + sign), begins ? 3 : 2);
        }
    }

    static void p7ADigit0To3StandsBehindAKnittersLetter(Due due) {
        for (char knitter = 'a'; knitter <= 'd'; knitter++) {
            for (char sign = 33; sign <= 126; sign++) {
                boolean stands = sign >= '0' && sign <= '3';
                due.is("fault of " + knitter + sign, faultOf("" + knitter + sign), stands ? NONE : 1);
            }
        }
    }

    static void p7AStitchsLetterAToXStandsBehindASign(Due due) {
        for (char act : new char[] {'-', '*', '+'}) {
            for (char sign = 33; sign <= 126; sign++) {
                boolean stands = sign >= 'A' && sign <= 'X';
                int ended = act == '+' ? 2 : NONE;
                due.is("fault of " + act + sign, faultOf("" + act + sign), stands ? ended : 1);
            }
        }
    }

    static void p7AKnittersLetterAToDEndsAMend(Due due) {
        for (char stitch : new char[] {'A', 'X'}) {
            for (char sign = 33; sign <= 126; sign++) {
                boolean stands = sign >= 'a' && sign <= 'd';
                due.is("fault of +" + stitch + sign, faultOf("+" + stitch + sign), stands ? NONE : 2);
            }
        }
    }

    static void p7TheNumberOfSignsIfMoreMustCome(Due due) {
        String[] begun = {"a", "b", "c", "d", "-", "*", "+", "+A", "+X"};
        for (String act : begun) {
            due.is("fault of " + act, faultOf(act), act.length());
            due.is("fault of d3" + act, faultOf("d3" + act), 2 + act.length());
            due.is("fault of +Xd" + act, faultOf("+Xd" + act), 3 + act.length());
        }
    }

    static void p7TheFirstSignThatCanNotStandThere(Due due) {
        due.is("first of many", faultOf("a0e-Y"), 2);
        due.is("ahead of one that must come", faultOf("a4-"), 1);
        due.is("a second act's", faultOf("a0-@a"), 3);
        due.is("what stood first can not stand twice", faultOf("aa"), 1);
        due.is("nor here", faultOf("--"), 1);
        due.is("nor here", faultOf("+A+"), 2);
    }

    static void p7AFullPad(Due due) {
        due.is("30 acts of two signs", faultOf("a0".repeat(30)), NONE);
        due.is("20 acts of three", faultOf("+Xd".repeat(20)), NONE);
        due.is("the last sign can not stand", faultOf("a0".repeat(29) + "a4"), 59);
        due.is("the last act can not begin", faultOf("+Xd".repeat(19) + "-Ae"), 59);
        due.is("more must come behind 60", faultOf("+Xd".repeat(19) + "-Aa"), 60);
        due.is("more must come behind 59", faultOf("a0".repeat(29) + "-"), 59);
    }

    static void p7NoFaultThoughItCanNotBe(Due due) {
        due.is("no such stitch", faultOf("-X"), NONE);
        due.is("more than 24", faultOf("a0".repeat(25)), NONE);
        due.is("not eaten", faultOf("a0+Aa"), NONE);
        KnitChronicle x = new KnitChronicle();
        Pads.write(x, "-X");
        due.is("so it is no fault", x.judge(1), 1);
        due.is("but it is not done", x.done(), NO);
    }

    // ---- part 1: what acts do

    static void t1AKnitterKnitsAsTightAsHeDoes(Due due) {
        int[] tights = {0, 9, 1, 8};
        for (int k = 0; k < 4; k++) {
            for (int colour = 0; colour < 4; colour++) {
                KnitChronicle x = Pads.knitters(new KnitChronicle(), tights[0], tights[1], tights[2], tights[3]);
                due.is("done", Pads.does(x, "" + (char) ('a' + k) + colour), 1);
                due.is("colour", x.told(100), colour);
                due.is("tight", x.told(101), tights[k]);
                due.is("on none", x.told(102), NONE);
            }
        }
    }

    static void t1BehindTheLastOne(Due due) {
        KnitChronicle x = Pads.row(3, 2);
        Pads.does(x, "a1");
        due.is("three", x.told(1), 3);
        due.is("A", x.told(100), 3);
        due.is("B", x.told(200), 2);
        due.is("C", x.told(300), 1);
    }

    static void t1OnTheLastOfThatColourThatIsNotEaten(Due due) {
        for (int colour = 0; colour < 4; colour++) {
            KnitChronicle x = Pads.row(0, 1, 2, 3, 0, 1, 2, 3);
            Pads.does(x, "a" + colour);
            due.is("the last", x.told(902), 4 + colour);
            Pads.does(x, "-I*" + Pads.letter(4 + colour) + "a" + colour);
            due.is("the last is eaten", x.told(902), colour);
            Pads.does(x, "-I*" + Pads.letter(colour) + "a" + colour);
            due.is("all are eaten", x.told(902), NONE);
            Pads.does(x, "-I+" + Pads.letter(colour) + "aa" + colour);
            due.is("one is mended", x.told(902), colour);
        }
    }

    static void t1OnNoneIfThereIsNoneOfThatColour(Due due) {
        KnitChronicle x = Pads.row(0, 1, 2);
        Pads.does(x, "a3");
        due.is("none of that colour", x.told(402), NONE);
        Pads.does(x, "a3");
        due.is("then the one just knitted", x.told(502), 3);
    }

    static void t1OnALooseOne(Due due) {
        KnitChronicle x = Pads.chain(2);
        Pads.does(x, "*Aa0");
        due.is("B is loose, but not eaten", x.told(302), 1);
        due.is("so C is loose", x.told(4), 6);
    }

    static void t1PulledAreAllThatHangOnIt(Due due) {
        for (int pulled = 0; pulled < 24; pulled++) {
            KnitChronicle x = Pads.chain(24);
            Pads.does(x, "-" + Pads.letter(pulled));
            due.is("chain without " + pulled, x.told(1), pulled);
            KnitChronicle y = Pads.alone(24);
            Pads.does(y, "-" + Pads.letter(pulled));
            due.is("alone without " + pulled, y.told(1), 23);
        }
    }

    static void t1TheOthersCloseUpInTheirOrder(Due due) {
        for (int pulled = 0; pulled < 24; pulled++) {
            KnitChronicle x = new KnitChronicle();
            for (int i = 0; i < 24; i++) {
                x.stitch(i % 4, i % 10, -1);
            }
            Pads.does(x, "*" + Pads.letter(pulled == 23 ? 0 : 23) + "-" + Pads.letter(pulled));
            for (int i = 0; i < 23; i++) {
                int was = i < pulled ? i : i + 1;
                due.is("colour of " + was, x.told(100 * (1 + i)), was % 4);
                due.is("tight of " + was, x.told(100 * (1 + i) + 1), was % 10);
            }
            due.is("the eaten one has its new number", x.told(2), pulled == 23 ? 1 : 1 << 22);
            due.is("24 are no more", x.told(2400), OUTSIDE);
        }
    }

    static void t1NewNumbersOfWhatTheyHangOn(Due due) {
        KnitChronicle x = Pads.hung(-1, -1, 0, 1, 1, 4, -1, 6, 2);
        Pads.does(x, "-B");
        int[] on = {NONE, 0, NONE, 2, 1};
        due.is("five are left", x.told(1), 5);
        for (int i = 0; i < 5; i++) {
            due.is("on which " + i, x.told(100 * (1 + i) + 2), on[i]);
        }
    }

    static void t1OnNoneStaysOnNone(Due due) {
        KnitChronicle x = Pads.alone(2);
        Pads.does(x, "a3-A");
        due.is("knit on none", x.told(202), NONE);
        due.is("told in on none", x.told(102), NONE);
        Pads.does(x, "-A");
        due.is("again", x.told(102), NONE);
        due.is("its colour", x.told(100), 3);
    }

    static void t1MendedAsTightAsHeKnits(Due due) {
        KnitChronicle x = Pads.knitters(Pads.chain(2), 0, 9, 1, 8);
        int[] tights = {0, 9, 1, 8};
        for (int k = 0; k < 4; k++) {
            due.is("eaten and mended", Pads.does(x, "*B+B" + (char) ('a' + k)), 2);
            due.is("tight", x.told(201), tights[k]);
            due.is("not eaten", x.told(2), 0);
            due.is("colour stays", x.told(200), 0);
            due.is("hangs as it did", x.told(202), 0);
        }
        Pads.does(x, "*B");
        due.is("an eaten one stays as tight", x.told(201), 8);
    }

    static void t1LooseIfItHangsOnOneThatIsEatenOrLoose(Due due) {
        for (int eaten = 0; eaten < 24; eaten++) {
            KnitChronicle x = Pads.chain(24);
            Pads.does(x, "*" + Pads.letter(eaten));
            due.is("eaten", x.told(2), 1 << eaten);
            due.is("all that hang on " + eaten, x.told(4), Pads.ALL & -(1 << eaten) & ~(1 << eaten));
        }
        KnitChronicle x = Pads.alone(24);
        Pads.does(x, Pads.toEach('*', 24));
        due.is("all eaten", x.told(2), Pads.ALL);
        due.is("none loose, as none hangs", x.told(4), 0);
    }

    static void t1AnEatenOneMayBeLooseToo(Due due) {
        KnitChronicle x = Pads.chain(24);
        Pads.does(x, Pads.toEach('*', 24));
        due.is("all eaten", x.told(2), Pads.ALL);
        due.is("all but the first loose", x.told(4), Pads.ALL - 1);
        Pads.does(x, "+Aa+Ba");
        due.is("22 eaten", x.told(2), Pads.ALL - 3);
        due.is("those on an eaten one", x.told(4), Pads.ALL - 7);
    }
}
