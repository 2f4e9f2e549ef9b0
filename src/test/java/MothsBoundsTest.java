/** Part 4 of the terms and promises 20 to 28: a test for each sentence that names where something begins or ends. */
final class MothsBoundsTest {
    private static final int NONE = -6, UNKNOWN = -1, OUTSIDE = -2, STATE = -3, FULL = -4;
    private static final long LOST = -1000000000000000000L;
    private static final int LEFT_OVER_BY = 65537, SEEDS = 10000;

    public static void main(String[] args) throws IllegalAccessException {
        Sentences.run(MothsBoundsTest.class);
    }

    // ---- promise 20

    static void p20TightFrom0To9(Due due) {
        for (int v = 0; v < 10; v++) {
            due.is("may be " + v, new KnitChronicle().seen(v, true), 1);
            due.is("can not be " + v, new KnitChronicle().seen(v, false), 1);
        }
        due.is("-1", new KnitChronicle().seen(-1, true), OUTSIDE);
        due.is("-1, can not", new KnitChronicle().seen(-1, false), OUTSIDE);
        due.is("10", new KnitChronicle().seen(10, true), OUTSIDE);
        due.is("10, can not", new KnitChronicle().seen(10, false), OUTSIDE);
        for (int far : Pads.FAR) {
            due.is("far " + far, new KnitChronicle().seen(far, true), OUTSIDE);
        }
    }

    static void p20HowManyUpTo8(Due due) {
        KnitChronicle x = new KnitChronicle();
        for (int n = 1; n <= 8; n++) {
            due.is("sight " + n, x.seen(5, true), n);
        }
        due.is("one more", x.seen(5, true), FULL);
        due.is("one more that would leave none", x.seen(5, false), FULL);
        due.is("8", x.told(3), 8);
        due.is("a refused one is not kept", x.tights(), 112);
    }

    static void p20OutsideThenFull(Due due) {
        KnitChronicle x = new KnitChronicle();
        for (int n = 1; n <= 8; n++) {
            x.seen(0, false);
        }
        due.is("-1 and full", x.seen(-1, true), OUTSIDE);
        due.is("10 and full", x.seen(10, false), OUTSIDE);
    }

    // ---- promise 21

    static void p21ForgetNone(Due due) {
        KnitChronicle x = new KnitChronicle();
        due.is("none", x.forget(), 0);
        due.same("nothing is changed", Pads.all(x), Pads.all(new KnitChronicle()));
    }

    static void p21ForgetAll8(Due due) {
        KnitChronicle x = new KnitChronicle();
        for (int n = 1; n <= 8; n++) {
            x.seen(n, n % 2 == 0);
        }
        due.is("8", x.forget(), 8);
        due.is("none more", x.forget(), 0);
        due.is("told", x.told(3), 0);
        due.is("all fit", x.tights(), 1023);
        due.is("room again", x.seen(3, true), 1);
    }

    // ---- promise 22

    static void p22AllTenWithoutSights(Due due) {
        due.is("0 to 9", new KnitChronicle().tights(), 1023);
    }

    static void p22ByOneAtMost(Due due) {
        int[] near = {3, 7, 14, 28, 56, 112, 224, 448, 896, 768};
        for (int v = 0; v < 10; v++) {
            KnitChronicle x = new KnitChronicle();
            x.seen(v, true);
            due.is("may be, by " + v, x.tights(), near[v]);
            KnitChronicle y = new KnitChronicle();
            y.seen(v, false);
            due.is("can not be, by " + v, y.tights(), 1023 - near[v]);
        }
    }

    static void p22TheSameAllTimes(Due due) {
        KnitChronicle x = new KnitChronicle();
        x.seen(3, true);
        x.seen(5, true);
        due.is("4 alone", x.tights(), 16);
        x.seen(4, false);
        due.is("none", x.tights(), 0);
        KnitChronicle y = new KnitChronicle();
        y.seen(0, true);
        y.seen(9, true);
        due.is("not 0 and 9", y.tights(), 0);
    }

    static void p22ByAll8Sights(Due due) {
        KnitChronicle x = new KnitChronicle();
        for (int n = 1; n <= 7; n++) {
            x.seen(0, false);
        }
        x.seen(9, false);
        due.is("the eighth, too", x.tights(), 252);
    }

    // ---- promise 23

    private static void next(Due due, int v, int left, int... sights) {
        KnitChronicle x = new KnitChronicle();
        for (int sight : sights) {
            x.seen(Math.abs(sight) - 1, sight > 0);
        }
        due.is("next to ask", x.next(0), v);
        due.is("left by it", x.next(1), left);
    }

    static void p23WhatIs0Or1(Due due) {
        KnitChronicle x = new KnitChronicle();
        due.is("0", x.next(0), 1);
        due.is("1", x.next(1), 7);
        due.is("-1", x.next(-1), OUTSIDE);
        due.is("2", x.next(2), OUTSIDE);
        for (int far : Pads.FAR) {
            due.is("what " + far, x.next(far), OUTSIDE);
        }
    }

    static void p23NoneIfNoneFits(Due due) {
        next(due, NONE, NONE, 1, 10);
        next(due, NONE, NONE, 6, -6);
    }

    static void p23OutsideThenNone(Due due) {
        KnitChronicle x = new KnitChronicle();
        x.seen(0, true);
        x.seen(9, true);
        due.is("2", x.next(2), OUTSIDE);
        due.is("-1", x.next(-1), OUTSIDE);
    }

    // In these, a sight is v and 1, so that v 0 has a sign, too: below 0 for one that can not be.
    static void p23TheLeastOfAsGoodOnes(Due due) {
        // 0 and 1 are left: 2 tells them apart, 0 and 1 do not
        next(due, 2, 1, 1);
        // 8 and 9 are left: 7 does
        next(due, 7, 1, 10);
        // one is left, whatever is asked
        next(due, 0, 1, 1, -3);
        next(due, 0, 1, 10, -8);
    }

    static void p23WhicheverItIsTheFewestAtTheMost(Due due) {
        // all 10: three or seven
        next(due, 1, 7);
        // 3 to 9: 4 and on take three of seven
        next(due, 4, 4, -2);
        // 0 to 6: 1 takes three of seven
        next(due, 1, 4, -9);
        // 4 to 6: 3 takes one, 4 takes two
        next(due, 3, 2, 6);
    }

    static void p23WithAll8Sights(Due due) {
        next(due, 1, 4, -9, -9, -9, -9, -9, -9, -9, -9);
    }

    // ---- promise 24

    private static void moths(Due due, KnitChronicle x, int set, int t, long upper, long lower) {
        due.is("upper of " + set + " by " + t, x.moths(set, t, 0), upper);
        due.is("lower of " + set + " by " + t, x.moths(set, t, 1), lower);
    }

    private static void mothsRefused(Due due, KnitChronicle x, int set, int t, int refusal) {
        moths(due, x, set, t, LOST + refusal, LOST + refusal);
    }

    static void p24TenthsFrom0To10(Due due) {
        int[][] want = {{1, 1}, {9, 10}, {4, 5}, {7, 10}, {3, 5}, {1, 2}, {2, 5}, {3, 10}, {1, 5}, {1, 10}, {0, 1}};
        for (int t = 0; t <= 10; t++) {
            moths(due, Pads.alone(1), 1, t, want[t][0], want[t][1]);
            moths(due, Pads.chain(2), 2, t, want[t][0] * want[t][0], want[t][1] * want[t][1]);
        }
        mothsRefused(due, Pads.alone(1), 1, -1, OUTSIDE);
        mothsRefused(due, Pads.alone(1), 1, 11, OUTSIDE);
        for (int far : Pads.FAR) {
            mothsRefused(due, Pads.alone(1), 1, far, OUTSIDE);
        }
    }

    static void p24PartIs0Or1(Due due) {
        KnitChronicle x = Pads.alone(1);
        moths(due, x, 1, 1, 9, 10);
        due.is("-1", x.moths(1, 1, -1), LOST + OUTSIDE);
        due.is("2", x.moths(1, 1, 2), LOST + OUTSIDE);
        for (int far : Pads.FAR) {
            due.is("part " + far, x.moths(1, 1, far), LOST + OUTSIDE);
        }
    }

    static void p24UnknownIsASetWithOneThatIsNotThere(Due due) {
        mothsRefused(due, new KnitChronicle(), 1, 5, UNKNOWN);
        mothsRefused(due, new KnitChronicle(), -1, 5, UNKNOWN);
        for (int n = 1; n <= 24; n++) {
            moths(due, Pads.alone(n), 1 << n - 1, 5, 1, 2);
            mothsRefused(due, Pads.alone(n), 1 << n, 5, UNKNOWN);
            mothsRefused(due, Pads.alone(n), 1 | 1 << n, 5, UNKNOWN);
        }
        for (int bit = 24; bit < 32; bit++) {
            mothsRefused(due, Pads.alone(24), 1 << bit, 5, UNKNOWN);
        }
    }

    static void p24AnEmptySet(Due due) {
        for (int t = 0; t <= 10; t += 5) {
            moths(due, new KnitChronicle(), 0, t, 1, 1);
            moths(due, Pads.chain(24), 0, t, 1, 1);
        }
    }

    static void p24MoreThan18(Due due) {
        for (int n = 18; n <= 24; n++) {
            moths(due, Pads.chain(n), 1 << 17, 9, 1, 1000000000000000000L);
            moths(due, Pads.alone(n), (1 << 18) - 1, 1, 150094635296999121L, 1000000000000000000L);
            if (n > 18) {
                mothsRefused(due, Pads.chain(n), 1 << 18, 9, STATE);
                mothsRefused(due, Pads.alone(n), (1 << 19) - 1, 9, STATE);
                mothsRefused(due, Pads.chain(n), (1 << n) - 1, 0, STATE);
                mothsRefused(due, Pads.alone(n), (1 << n) - 1, 10, STATE);
            }
        }
    }

    static void p24MoreThan18WithThoseThatTheyHangOn(Due due) {
        // 0 to 16 each on the one ahead, 17 and 18 on 16
        KnitChronicle x = Pads.chain(18);
        x.stitch(0, 5, 16);
        moths(due, x, 1 << 17, 5, 1, 1 << 18);
        moths(due, x, 1 << 18, 5, 1, 1 << 18);
        mothsRefused(due, x, 3 << 17, 5, STATE);
        // those that hang on the set do not count
        moths(due, x, 1, 5, 1, 2);
    }

    static void p24UnknownThenOutsideThenState(Due due) {
        KnitChronicle x = Pads.chain(20);
        due.is("unknown and outside", x.moths(1 << 20, 11, 0), LOST + UNKNOWN);
        due.is("unknown and part", x.moths(1 << 20, 5, 2), LOST + UNKNOWN);
        due.is("outside and state", x.moths(1 << 19, 11, 0), LOST + OUTSIDE);
        due.is("part and state", x.moths(1 << 19, 5, -1), LOST + OUTSIDE);
        due.is("unknown and state", x.moths(3 << 19, 5, 0), LOST + UNKNOWN);
        due.is("all three", x.moths(3 << 19, -1, 2), LOST + UNKNOWN);
        Pads.does(x, "*A");
        mothsRefused(due, x, 1 << 19, 0, STATE);
    }

    static void p24EatenOrLooseAlready(Due due) {
        KnitChronicle x = Pads.chain(3);
        Pads.does(x, "*B");
        for (int t = 0; t <= 10; t += 5) {
            moths(due, x, 2, t, 0, 1);
            moths(due, x, 4, t, 0, 1);
            moths(due, x, 7, t, 0, 1);
        }
        moths(due, x, 1, 5, 1, 2);
    }

    static void p24EachStitchOnce(Due due) {
        KnitChronicle x = Pads.hung(-1, 0, 0, 1, 2);
        moths(due, x, 24, 5, 1, 32);
        moths(due, x, 8, 5, 1, 8);
        moths(due, x, 31, 5, 1, 32);
        moths(due, x, 25, 5, 1, 32);
    }

    static void p24LowestTermsOfALongOne(Due due) {
        moths(due, Pads.alone(18), (1 << 18) - 1, 5, 1, 1 << 18);
        moths(due, Pads.alone(18), (1 << 18) - 1, 8, 1, 3814697265625L);
        moths(due, Pads.alone(18), (1 << 18) - 1, 2, 68719476736L, 3814697265625L);
        moths(due, Pads.alone(18), (1 << 18) - 1, 3, 1628413597910449L, 1000000000000000000L);
        moths(due, Pads.alone(18), (1 << 18) - 1, 10, 0, 1);
        moths(due, Pads.alone(18), (1 << 18) - 1, 0, 1, 1);
    }

    // ---- promise 25

    private static int after(int x) {
        return (75 * x + 74) % LEFT_OVER_BY;
    }

    private static void year(Due due, KnitChronicle x, int seed, int m, int count, int hurt, int undone) {
        due.is("how many by " + seed + " of " + m, x.year(seed, m, 0), count);
        due.is("eaten or loose by " + seed + " of " + m, x.year(seed, m, 1), hurt);
        due.is("undone by " + seed + " of " + m, x.year(seed, m, 2), undone);
    }

    static void p25SeedsFrom0To9999(Due due) {
        KnitChronicle x = Pads.chain(3);
        year(due, x, 0, 1, 3, 0, 0);
        // 75 times 9999 and 74 is 749999, left over 29092: by 8 left over 4, COLOUR 1 is knit
        year(due, x, 9999, 1, 4, 0, 0);
        year(due, x, -1, 1, OUTSIDE, OUTSIDE, OUTSIDE);
        year(due, x, 10000, 1, OUTSIDE, OUTSIDE, OUTSIDE);
        for (int far : Pads.FAR) {
            year(due, x, far, 1, OUTSIDE, OUTSIDE, OUTSIDE);
        }
    }

    static void p25ActsFrom1To99(Due due) {
        KnitChronicle x = Pads.chain(3);
        // 74, 5624, 28652: the third is the first that can be
        year(due, x, 0, 1, 3, 0, 0);
        year(due, x, 0, 2, 3, 0, 0);
        year(due, x, 0, 3, 4, 0, 0);
        due.holds("99", x.year(0, 99, 0) >= 0);
        year(due, x, 0, 0, OUTSIDE, OUTSIDE, OUTSIDE);
        year(due, x, 0, -1, OUTSIDE, OUTSIDE, OUTSIDE);
        year(due, x, 0, 100, OUTSIDE, OUTSIDE, OUTSIDE);
        for (int far : Pads.FAR) {
            year(due, x, 0, far, OUTSIDE, OUTSIDE, OUTSIDE);
        }
    }

    static void p25The99thActIsTried(Due due) {
        int found = 0;
        for (int seed = 0; seed < SEEDS && found < 20; seed++) {
            int x = seed;
            for (int act = 0; act < 99; act++) {
                x = after(x);
            }
            KnitChronicle town = Pads.chain(1);
            int before = town.year(seed, 98, 0);
            if (x % 8 >= 3 && before < 24) {
                found++;
                due.is("one more knit by " + seed, town.year(seed, 99, 0), before + 1);
            }
        }
        due.is("such seeds", found, 20);
    }

    static void p25WhatFrom0To2(Due due) {
        KnitChronicle x = Pads.chain(3);
        due.is("-1", x.year(0, 1, -1), OUTSIDE);
        due.is("3", x.year(0, 1, 3), OUTSIDE);
        for (int far : Pads.FAR) {
            due.is("what " + far, x.year(0, 1, far), OUTSIDE);
        }
    }

    static void p25LeftOverBy65537(Due due) {
        KnitChronicle x = Pads.chain(3);
        // 75 times 872 and 74 is 65474: STITCH 8184 left over by 24 = 0 would be mended, and is not eaten
        year(due, x, 872, 1, 3, 0, 0);
        // 75 times 873 and 74 is 65549, left over 12: one is knit
        year(due, x, 873, 1, 4, 0, 0);
        // 75 times 3495 and 74 is 262199, left over 51: by 8 left over 3, one is knit
        year(due, x, 3495, 1, 4, 0, 0);
        // 75 times 5242 and 74 is 393224, left over 2: STITCH 0 is mended
        KnitChronicle eaten = Pads.alone(1);
        Pads.does(eaten, "*A");
        year(due, eaten, 5242, 1, 1, 0, 0);
        // 75 times 9611 and 74 is 720899, left over 65529, the greatest after one act: 8191 left over by 24 = 7 is eaten
        year(due, Pads.alone(8), 9611, 1, 8, 1, 0);
        year(due, Pads.alone(7), 9611, 1, 7, 0, 0);
    }

    static void p25StitchesByEightLeftOverBy24(Due due) {
        boolean[] met = new boolean[3 * 24];
        for (int seed = 0; seed < SEEDS; seed++) {
            int x = after(seed);
            int kind = x % 8;
            int stitch = x / 8 % 24;
            if (kind < 3 && !met[kind * 24 + stitch]) {
                met[kind * 24 + stitch] = true;
                oneActOnAFullChain(due, seed, kind, stitch);
            }
        }
        for (int i = 0; i < met.length; i++) {
            due.holds("such an act is met " + i, met[i]);
        }
    }

    /** What one act does to a full chain, and that it can not be where its STITCH is just not there any more. */
    private static void oneActOnAFullChain(Due due, int seed, int kind, int stitch) {
        KnitChronicle whole = Pads.chain(24);
        KnitChronicle eaten = Pads.alone(24);
        Pads.does(eaten, Pads.toEach('*', 24));
        if (kind == 0) {
            year(due, whole, seed, 1, stitch, 0, 24 - stitch);
            year(due, eaten, seed, 1, 23, 23, 1);
        } else if (kind == 1) {
            year(due, whole, seed, 1, 24, 24 - stitch, 0);
            year(due, eaten, seed, 1, 24, 24, 0);
        } else {
            year(due, whole, seed, 1, 24, 0, 0);
            year(due, eaten, seed, 1, 24, 23, 0);
        }
        KnitChronicle shorter = Pads.alone(stitch);
        Pads.does(shorter, Pads.toEach('*', stitch));
        year(due, shorter, seed, 1, stitch, stitch, 0);
    }

    static void p25ElseAKnitterKnits(Due due) {
        boolean[] met = new boolean[8];
        for (int seed = 0; seed < SEEDS; seed++) {
            int kind = after(seed) % 8;
            if (kind >= 3 && !met[kind]) {
                met[kind] = true;
                year(due, new KnitChronicle(), seed, 1, 1, 0, 0);
                year(due, Pads.alone(23), seed, 1, 24, 0, 0);
                year(due, Pads.alone(24), seed, 1, 24, 0, 0);
            }
        }
        for (int kind = 3; kind < 8; kind++) {
            due.holds("knit by " + kind, met[kind]);
        }
    }

    static void p25ColoursBy32LeftOverBy4(Due due) {
        boolean[] met = new boolean[20];
        for (int seed = 0; seed < SEEDS; seed++) {
            int first = after(seed);
            int second = after(first);
            int colour = first / 32 % 4;
            int pulled = second / 8 % 24;
            if (first % 8 >= 3 && second % 8 == 0 && pulled < 5 && !met[pulled * 4 + colour]) {
                met[pulled * 4 + colour] = true;
                boolean both = pulled == colour;
                year(due, Pads.row(0, 1, 2, 3), seed, 2, both ? 3 : 4, 0, both ? 2 : 1);
            }
        }
        for (int i = 0; i < met.length; i++) {
            due.holds("such acts are met " + i, met[i]);
        }
    }

    static void p25UndoneInAll(Due due) {
        int found = 0;
        for (int seed = 0; seed < SEEDS && found < 9; seed++) {
            int first = after(seed);
            int second = after(first);
            int one = first / 8 % 24;
            int two = second / 8 % 24;
            if (first % 8 == 0 && second % 8 == 0 && two < one) {
                found++;
                year(due, Pads.chain(24), seed, 2, two, 0, 24 - two);
                year(due, Pads.alone(24), seed, 2, 22, 0, 2);
            }
        }
        due.is("such seeds", found, 9);
    }

    static void p25OnAnEmptyScarf(Due due) {
        // 74, 5624: no STITCH can be mended or pulled
        year(due, new KnitChronicle(), 0, 2, 0, 0, 0);
        year(due, new KnitChronicle(), 0, 3, 1, 0, 0);
    }

    static void p25NothingIsDoneInFact(Due due) {
        KnitChronicle x = Pads.chain(5);
        Pads.does(x, "*C");
        x.image(0);
        Pads.write(x, "a0-B");
        String before = Pads.all(x);
        int once = x.year(77, 99, 2);
        due.is("again", x.year(77, 99, 2), once);
        due.same("all as it is", Pads.all(x), before);
    }

    // ---- promise 26

    static void p26ImagesAre0And1(Due due) {
        for (int n = 0; n < 2; n++) {
            KnitChronicle x = new KnitChronicle();
            due.is("image " + n, x.image(n), 1);
            due.is("kept " + n, x.restore(n), 1);
            due.is("the other is not", x.restore(1 - n), STATE);
        }
        KnitChronicle x = new KnitChronicle();
        due.is("-1", x.image(-1), OUTSIDE);
        due.is("2", x.image(2), OUTSIDE);
        for (int far : Pads.FAR) {
            due.is("image " + far, x.image(far), OUTSIDE);
        }
        due.is("0 was not kept by these", x.restore(0), STATE);
        due.is("nor was 1", x.restore(1), STATE);
    }

    static void p26EachByItself(Due due) {
        KnitChronicle x = Pads.alone(1);
        x.image(0);
        x.stitch(1, 1, -1);
        x.image(1);
        x.restore(0);
        due.is("one in 0", x.told(1), 1);
        x.restore(1);
        due.is("two in 1", x.told(1), 2);
    }

    static void p26KeptAnew(Due due) {
        KnitChronicle x = Pads.alone(24);
        x.image(0);
        x.cast();
        due.is("again", x.image(0), 1);
        x.stitch(0, 0, -1);
        x.restore(0);
        due.is("the new one", x.told(1), 0);
    }

    // ---- promise 27

    static void p27ImagesAre0And1(Due due) {
        KnitChronicle x = Pads.alone(1);
        x.image(0);
        x.image(1);
        due.is("0", x.restore(0), 1);
        due.is("1", x.restore(1), 1);
        due.is("-1", x.restore(-1), OUTSIDE);
        due.is("2", x.restore(2), OUTSIDE);
        due.is("32", x.restore(32), OUTSIDE);
        for (int far : Pads.FAR) {
            due.is("restore " + far, x.restore(far), OUTSIDE);
        }
    }

    static void p27StateIfItWasNot(Due due) {
        KnitChronicle x = Pads.alone(1);
        due.is("neither, 0", x.restore(0), STATE);
        due.is("neither, 1", x.restore(1), STATE);
        x.image(1);
        due.is("not 0", x.restore(0), STATE);
        due.is("but 1", x.restore(1), 1);
    }

    static void p27OutsideThenState(Due due) {
        due.is("2 was not kept, either", new KnitChronicle().restore(2), OUTSIDE);
        due.is("nor was -1", new KnitChronicle().restore(-1), OUTSIDE);
    }

    static void p27AnEmptyAndAFullOne(Due due) {
        KnitChronicle x = new KnitChronicle();
        String empty = Pads.tells(x);
        x.image(0);
        for (int i = 0; i < 24; i++) {
            x.stitch(i % 4, i % 10, i - 1);
        }
        Pads.does(x, Pads.toEach('*', 24));
        Pads.knitters(x, 0, 9, 1, 8);
        for (int i = 0; i < 8; i++) {
            x.seen(i, false);
        }
        String full = Pads.tells(x);
        x.image(1);
        x.restore(0);
        due.same("empty", Pads.tells(x), empty);
        x.restore(1);
        due.same("full", Pads.tells(x), full);
    }

    static void p27AllButThePad(Due due) {
        KnitChronicle x = new KnitChronicle();
        Pads.write(x, "a0".repeat(30));
        x.image(0);
        x.wipe();
        x.say('-');
        x.restore(0);
        due.is("signs as they are now", x.told(0), 1);
        due.is("and which", x.fault(), 1);
        due.is("no sign comes back", x.say('A'), 2);
        due.is("so it is a pull", x.judge(1), 1);
    }

    static void p27TheOtherImageStaysKept(Due due) {
        KnitChronicle x = Pads.alone(3);
        x.image(0);
        x.stitch(0, 0, -1);
        x.image(1);
        x.restore(0);
        due.is("1 was kept later than 0", x.rip(1), 1);
        due.is("it can be restored", x.restore(1), 1);
        due.is("four", x.told(1), 4);
    }

    // ---- promise 28

    static void p28From0To4(Due due) {
        KnitChronicle x = Pads.hung(-1, 0, 1, -1, 3, 4, 5);
        Pads.does(x, "*A");
        x.seen(1, true);
        x.seen(2, true);
        Pads.write(x, "-A-");
        int[] want = {3, 7, 1, 2, 6};
        for (int what = 0; what < 5; what++) {
            due.is("told " + what, x.told(what), want[what]);
        }
        for (int what = 5; what < 10; what++) {
            due.is("told " + what, x.told(what), OUTSIDE);
        }
        due.is("told -1", x.told(-1), OUTSIDE);
        for (int far : Pads.FAR) {
            due.is("told " + far, x.told(far), OUTSIDE);
        }
    }

    static void p28OfAnEmptyOne(Due due) {
        for (int what = 0; what < 5; what++) {
            due.is("told " + what, new KnitChronicle().told(what), 0);
        }
    }

    static void p28OfAFullOne(Due due) {
        KnitChronicle x = Pads.chain(24);
        Pads.does(x, Pads.toEach('*', 24));
        for (int i = 0; i < 8; i++) {
            x.seen(5, true);
        }
        Pads.write(x, "!".repeat(60));
        int[] want = {60, 24, Pads.ALL, 8, Pads.ALL - 1};
        for (int what = 0; what < 5; what++) {
            due.is("told " + what, x.told(what), want[what]);
        }
    }

    static void p28KnittersFrom10To13(Due due) {
        KnitChronicle x = Pads.knitters(new KnitChronicle(), 0, 9, 1, 8);
        int[] want = {OUTSIDE, 0, 9, 1, 8, OUTSIDE};
        for (int i = 0; i < want.length; i++) {
            due.is("told " + (9 + i), x.told(9 + i), want[i]);
        }
        for (int what = 14; what < 100; what++) {
            due.is("told " + what, x.told(what), OUTSIDE);
        }
    }

    static void p28StitchesThatThereAre(Due due) {
        for (int n = 0; n <= 24; n++) {
            KnitChronicle x = new KnitChronicle();
            for (int i = 0; i < n; i++) {
                x.stitch(i % 4, i % 10, i - 1);
            }
            if (n > 0) {
                int last = n - 1;
                due.is("first colour of " + n, x.told(100), 0);
                due.is("first tight of " + n, x.told(101), 0);
                due.is("first on none of " + n, x.told(102), NONE);
                due.is("last colour of " + n, x.told(100 * n), last % 4);
                due.is("last tight of " + n, x.told(100 * n + 1), last % 10);
                due.is("last on which of " + n, x.told(100 * n + 2), n == 1 ? NONE : n - 2);
                due.is("no 3 of " + n, x.told(100 * n + 3), OUTSIDE);
                due.is("no 99 of " + n, x.told(100 * n + 99), OUTSIDE);
            }
            for (int what = 0; what < 3; what++) {
                due.is("none behind the last of " + n, x.told(100 * (n + 1) + what), OUTSIDE);
            }
            due.is("99 of " + n, x.told(99), OUTSIDE);
        }
    }
}
