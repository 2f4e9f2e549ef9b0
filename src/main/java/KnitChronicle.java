/**
 * A town's history as a scarf: a stitch for each deed, knitted, unpicked, eaten by moths and mended.
 * What each call promises stands in shared/DOC.md.
 */
public final class KnitChronicle {
    public static final int NONE = -6, UNKNOWN = -1, OUTSIDE = -2, STATE = -3, FULL = -4, NO = -5;
    public static final long LOST = -1000000000000000000L;

    private static final int STITCHES = 24, SIGNS = 60, SIGHTS = 8, IMAGES = 2, WEARERS = 9;
    private static final int COLOURS = 4, KNITTERS = 4, TIGHTNESSES = 10, USUAL_TIGHTNESS = 5;
    private static final int EVERY_COLOUR = 15, EVERY_TIGHTNESS = 1023;
    private static final int NO_ANCHOR = -1, SET_BITS = 32;
    private static final int FIRST_SIGN = 33, LAST_SIGN = 126;
    private static final int SEEDS = 10000, YEAR_ACTS = 99;
    // Ten to the 18th is the highest power of ten that a long holds.
    private static final int MOTH_STITCHES = 18;

    // Acts, in the order in which a year draws them.
    private static final int UNPICK = 0, EAT = 1, MEND = 2, KNIT = 3, NO_ACT = -1;
    private static final int CAN_BE = 0, NO_SUCH_STITCH = 1, SCARF_FULL = 2, WRONG_EATEN = 3;

    private final Town town = new Town();
    private final Town firstImage = new Town();
    private final Town secondImage = new Town();
    private int keptImages;
    private final Pad pad = new Pad();
    private final Trial trial = new Trial();
    private final HandChanges handChanges = new HandChanges();
    private final int[] sharedColours = new int[STITCHES + 1];

    public KnitChronicle() {
    }

    // ---- 1 the scarf, knitters, weeks

    public int stitch(int colour, int tight, int hangs) {
        Scarf scarf = town.scarf;
        if (hangs != NO_ANCHOR && !scarf.has(hangs)) {
            return UNKNOWN;
        }
        if (!isBelow(colour, COLOURS) || !isBelow(tight, TIGHTNESSES)) {
            return OUTSIDE;
        }
        if (scarf.isFull()) {
            return FULL;
        }
        scarf.append(colour, tight, hangs);
        return scarf.size;
    }

    public int cast() {
        int were = town.scarf.size;
        town.scarf.clear();
        return were;
    }

    public int knitter(int knitter, int tight) {
        if (!isBelow(knitter, KNITTERS)) {
            return UNKNOWN;
        }
        if (!isBelow(tight, TIGHTNESSES)) {
            return OUTSIDE;
        }
        int was = town.tightnessOf(knitter);
        put(town.knitterTightness, knitter, tight);
        return was;
    }

    public int say(int sign) {
        if (sign < FIRST_SIGN || sign > LAST_SIGN) {
            return OUTSIDE;
        }
        if (pad.length >= SIGNS) {
            return FULL;
        }
        pad.append(sign);
        return pad.length;
    }

    public int wipe() {
        int were = pad.length;
        pad.length = 0;
        return were;
    }

    public int fault() {
        return pad.firstFault();
    }

    // ---- 2 weeks

    public int judge(int what) {
        if (!isBelow(what, 2)) {
            return OUTSIDE;
        }
        if (pad.firstFault() != NONE) {
            return NO;
        }
        if (tryWeeks()) {
            return NONE;
        }
        return what == 0 ? trial.acts : trial.reason;
    }

    public int done() {
        if (!weeksCanBe()) {
            return NO;
        }
        town.scarf.copy(trial.scarf);
        pad.length = 0;
        return trial.acts;
    }

    public int behind(int what) {
        if (!isBelow(what, 4)) {
            return OUTSIDE;
        }
        if (!weeksCanBe()) {
            return NO;
        }
        switch (what) {
            case 0:
                return trial.scarf.size;
            case 1:
                return trial.scarf.eaten;
            case 2:
                return trial.scarf.looseOnes();
            default:
                return trial.mostUndone;
        }
    }

    public int of(int stitch, int what) {
        if (!isBelow(what, 3)) {
            return OUTSIDE;
        }
        if (!weeksCanBe()) {
            return NO;
        }
        if (!trial.scarf.has(stitch)) {
            return UNKNOWN;
        }
        return trial.scarf.trait(stitch, what);
    }

    private boolean weeksCanBe() {
        return pad.firstFault() == NONE && tryWeeks();
    }

    /** Asked only of a pad without a fault; the trial then tells how far the acts went, and what they left. */
    private boolean tryWeeks() {
        trial.begin(town.scarf);
        int place = 0;
        while (place < pad.length) {
            int kind = pad.kindAt(place);
            int stitch = pad.stitchAt(place + 1);
            int colour = pad.colourAt(place + 1);
            int tight = town.tightnessOf(pad.knitterAt(kind == KNIT ? place : place + 2));
            if (!trial.act(kind, stitch, colour, tight)) {
                return false;
            }
            place += kind == MEND ? 3 : 2;
        }
        return true;
    }

    // ---- 3 pulls, patterns, hands

    public int pull(int stitch) {
        if (!town.scarf.has(stitch)) {
            return UNKNOWN;
        }
        return Integer.bitCount(town.scarf.undoneWith(stitch));
    }

    public int pulls(int gone, int stay, int what) {
        Scarf scarf = town.scarf;
        if (!scarf.hasAll(gone) || !scarf.hasAll(stay)) {
            return UNKNOWN;
        }
        if (!isBelow(what, 2)) {
            return OUTSIDE;
        }
        int untouchable = scarf.withAnchors(stay);
        if ((gone & untouchable) != 0) {
            return NONE;
        }
        int pulled = scarf.topmostBelow(gone, untouchable);
        return what == 0 ? Integer.bitCount(pulled) : pulled;
    }

    public int pattern() {
        return town.scarf.shortestPattern();
    }

    public int hole(int stitch) {
        if (!town.scarf.has(stitch)) {
            return UNKNOWN;
        }
        if (!town.scarf.isEaten(stitch)) {
            return STATE;
        }
        return town.scarf.coloursOfHole(stitch);
    }

    public int rip(int n) {
        if (!isBelow(n, IMAGES)) {
            return OUTSIDE;
        }
        if (!isIn(keptImages, n)) {
            return STATE;
        }
        Scarf mine = town.scarf;
        Scarf kept = imageAt(n).scarf;
        return mine.size + kept.size - 2 * longestShared(mine, kept);
    }

    /** The most colours that stand in both rows in one order; sharedColours tells it for each start of the other row. */
    private int longestShared(Scarf one, Scarf other) {
        for (int j = 0; j <= other.size; j++) {
            put(sharedColours, j, 0);
        }
        for (int i = 0; i < one.size; i++) {
            int bothShorter = 0;
            for (int j = 0; j < other.size; j++) {
                int oneShorter = at(sharedColours, j + 1);
                int same = at(one.colours, i) == at(other.colours, j) ? bothShorter + 1 : 0;
                put(sharedColours, j + 1, Math.max(same, Math.max(oneShorter, at(sharedColours, j))));
                bothShorter = oneShorter;
            }
        }
        return at(sharedColours, other.size);
    }

    public int hold(int k, int what) {
        if (k < 1 || k > WEARERS || !isBelow(what, 2)) {
            return OUTSIDE;
        }
        int burden = leastBurden(k);
        return what == 0 ? burden : fewestOfFirst(k, burden);
    }

    private int leastBurden(int wearers) {
        int whole = town.scarf.tightnessFrom(0);
        for (int burden = 0; burden < whole; burden++) {
            if (town.scarf.stretchesFrom(0, burden) <= wearers) {
                return burden;
            }
        }
        return whole;
    }

    // As all can be held so, the first one can hold the stitches that are left by the fewest.
    private int fewestOfFirst(int wearers, int burden) {
        for (int first = 0; first < town.scarf.size; first++) {
            if (town.scarf.stretchesFrom(first, burden) <= wearers - 1) {
                return first;
            }
        }
        return town.scarf.size;
    }

    public int hands() {
        handChanges.count(town);
        return handChanges.fewest(town.scarf.size);
    }

    public int who(int stitch) {
        if (!town.scarf.has(stitch)) {
            return UNKNOWN;
        }
        handChanges.count(town);
        if (handChanges.fewest(town.scarf.size) == NONE) {
            return NONE;
        }
        return handChanges.knitterOf(stitch);
    }

    // ---- 4 what was felt, moths

    public int seen(int v, boolean may) {
        if (!isBelow(v, TIGHTNESSES)) {
            return OUTSIDE;
        }
        if (town.sights >= SIGHTS) {
            return FULL;
        }
        town.fitting &= may ? near(v) : ~near(v);
        town.sights++;
        return town.sights;
    }

    public int forget() {
        int were = town.sights;
        town.forgetSights();
        return were;
    }

    public int tights() {
        return town.fitting;
    }

    public int next(int what) {
        if (!isBelow(what, 2)) {
            return OUTSIDE;
        }
        if (town.fitting == 0) {
            return NONE;
        }
        int best = 0;
        for (int v = 1; v < TIGHTNESSES; v++) {
            if (mostLeftBy(v) < mostLeftBy(best)) {
                best = v;
            }
        }
        return what == 0 ? best : mostLeftBy(best);
    }

    private int mostLeftBy(int v) {
        int ifHis = Integer.bitCount(town.fitting & near(v));
        int ifNot = Integer.bitCount(town.fitting & ~near(v));
        return Math.max(ifHis, ifNot);
    }

    public long moths(int set, int t, int part) {
        Scarf scarf = town.scarf;
        if (!scarf.hasAll(set)) {
            return LOST + UNKNOWN;
        }
        if (t < 0 || t > 10 || !isBelow(part, 2)) {
            return LOST + OUTSIDE;
        }
        int needed = scarf.withAnchors(set);
        int stitches = Integer.bitCount(needed);
        if (stitches > MOTH_STITCHES) {
            return LOST + STATE;
        }
        if ((needed & scarf.eaten) != 0) {
            return part == 0 ? 0 : 1;
        }
        // A power of a fraction in lowest terms is in lowest terms, too.
        return power(termOfTenths(10 - t, part), stitches);
    }

    public int year(int seed, int m, int what) {
        if (!isBelow(seed, SEEDS) || m < 1 || m > YEAR_ACTS || !isBelow(what, 3)) {
            return OUTSIDE;
        }
        trial.begin(town.scarf);
        int x = seed;
        for (int act = 0; act < m; act++) {
            x = (75 * x + 74) % 65537;
            tryDrawn(x);
        }
        switch (what) {
            case 0:
                return trial.scarf.size;
            case 1:
                return Integer.bitCount(trial.scarf.eaten | trial.scarf.looseOnes());
            default:
                return trial.allUndone;
        }
    }

    private void tryDrawn(int x) {
        int kind = Math.min(x % 8, KNIT);
        int knitter = (kind == KNIT ? x / 8 : x / 192) % KNITTERS;
        trial.act(kind, (x / 8) % STITCHES, (x / 32) % COLOURS, town.tightnessOf(knitter));
    }

    public int image(int n) {
        if (!isBelow(n, IMAGES)) {
            return OUTSIDE;
        }
        imageAt(n).copy(town);
        keptImages |= 1 << n;
        return 1;
    }

    public int restore(int n) {
        if (!isBelow(n, IMAGES)) {
            return OUTSIDE;
        }
        if (!isIn(keptImages, n)) {
            return STATE;
        }
        town.copy(imageAt(n));
        return 1;
    }

    private Town imageAt(int n) {
        return n == 0 ? firstImage : secondImage;
    }

    public int told(int what) {
        if (what >= 100) {
            return toldOfStitch(what / 100 - 1, what % 100);
        }
        if (isBelow(what - 10, KNITTERS)) {
            return town.tightnessOf(what - 10);
        }
        switch (what) {
            case 0:
                return pad.length;
            case 1:
                return town.scarf.size;
            case 2:
                return town.scarf.eaten;
            case 3:
                return town.sights;
            case 4:
                return town.scarf.looseOnes();
            default:
                return OUTSIDE;
        }
    }

    private int toldOfStitch(int stitch, int trait) {
        if (!town.scarf.has(stitch) || !isBelow(trait, 3)) {
            return OUTSIDE;
        }
        return town.scarf.trait(stitch, trait);
    }

    // ---- numbers, sets and rows

    private static boolean isBelow(int number, int bound) {
        return number >= 0 && number < bound;
    }

    private static boolean isIn(int set, int member) {
        return member >= 0 && member < SET_BITS && (set & (1 << member)) != 0;
    }

    // Rows are read and written by these two alone, so that no index goes unlooked at.
    private static int at(int[] row, int place) {
        return place >= 0 && place < row.length ? row[place] : 0;
    }

    private static void put(int[] row, int place, int value) {
        if (place >= 0 && place < row.length) {
            row[place] = value;
        }
    }

    /** As bits, how tight one may knit who knits a stitch that is tight by v. */
    private static int near(int v) {
        return ((7 << v) >> 1) & EVERY_TIGHTNESS;
    }

    private static int termOfTenths(int tenths, int part) {
        int upper = tenths;
        int lower = 10;
        for (int divisor = 10; divisor > 1; divisor--) {
            if (upper % divisor == 0 && lower % divisor == 0) {
                upper /= divisor;
                lower /= divisor;
            }
        }
        return part == 0 ? upper : lower;
    }

    private static long power(long base, int exponent) {
        long product = 1;
        for (int i = 0; i < exponent; i++) {
            product *= base;
        }
        return product;
    }

    /** All that an image keeps. */
    private static final class Town {
        final Scarf scarf = new Scarf();
        final int[] knitterTightness = {USUAL_TIGHTNESS, USUAL_TIGHTNESS, USUAL_TIGHTNESS, USUAL_TIGHTNESS};
        int sights;
        // What all sights leave; no sight is ever asked for by itself, so that their rest is enough.
        int fitting = EVERY_TIGHTNESS;

        int tightnessOf(int knitter) {
            return at(knitterTightness, knitter);
        }

        void forgetSights() {
            sights = 0;
            fitting = EVERY_TIGHTNESS;
        }

        void copy(Town other) {
            scarf.copy(other.scarf);
            for (int knitter = 0; knitter < KNITTERS; knitter++) {
                put(knitterTightness, knitter, other.tightnessOf(knitter));
            }
            sights = other.sights;
            fitting = other.fitting;
        }
    }

    /** A row of stitches. Each hangs on one of a lower number: one walk along the row meets all anchors in time. */
    private static final class Scarf {
        final int[] colours = new int[STITCHES];
        final int[] tightnesses = new int[STITCHES];
        final int[] anchors = new int[STITCHES];
        int size;
        int eaten;

        boolean has(int stitch) {
            return isBelow(stitch, size);
        }

        boolean hasAll(int set) {
            return (set & ((1 << size) - 1)) == set;
        }

        boolean isFull() {
            return size >= STITCHES;
        }

        boolean isEaten(int stitch) {
            return isIn(eaten, stitch);
        }

        int trait(int stitch, int what) {
            switch (what) {
                case 0:
                    return at(colours, stitch);
                case 1:
                    return at(tightnesses, stitch);
                default:
                    int anchor = at(anchors, stitch);
                    return anchor == NO_ANCHOR ? NONE : anchor;
            }
        }

        void clear() {
            size = 0;
            eaten = 0;
        }

        void copy(Scarf other) {
            size = other.size;
            eaten = other.eaten;
            for (int stitch = 0; stitch < size; stitch++) {
                put(colours, stitch, at(other.colours, stitch));
                put(tightnesses, stitch, at(other.tightnesses, stitch));
                put(anchors, stitch, at(other.anchors, stitch));
            }
        }

        void append(int colour, int tight, int anchor) {
            put(colours, size, colour);
            put(tightnesses, size, tight);
            put(anchors, size, anchor);
            size++;
        }

        void knit(int colour, int tight) {
            append(colour, tight, lastWholeOf(colour));
        }

        private int lastWholeOf(int colour) {
            for (int stitch = size - 1; stitch >= 0; stitch--) {
                if (at(colours, stitch) == colour && !isIn(eaten, stitch)) {
                    return stitch;
                }
            }
            return NO_ANCHOR;
        }

        void eat(int stitch) {
            eaten |= 1 << stitch;
        }

        void mend(int stitch, int tight) {
            eaten &= ~(1 << stitch);
            put(tightnesses, stitch, tight);
        }

        int undoneWith(int stitch) {
            int undone = 1 << stitch;
            for (int later = stitch + 1; later < size; later++) {
                if (isIn(undone, at(anchors, later))) {
                    undone |= 1 << later;
                }
            }
            return undone;
        }

        int unpick(int stitch) {
            int undone = undoneWith(stitch);
            int left = 0;
            int leftEaten = 0;
            for (int old = 0; old < size; old++) {
                if (!isIn(undone, old)) {
                    put(colours, left, at(colours, old));
                    put(tightnesses, left, at(tightnesses, old));
                    put(anchors, left, closedUp(at(anchors, old), undone));
                    leftEaten |= isEaten(old) ? 1 << left : 0;
                    left++;
                }
            }
            size = left;
            eaten = leftEaten;
            return Integer.bitCount(undone);
        }

        private static int closedUp(int stitch, int undone) {
            return stitch == NO_ANCHOR ? NO_ANCHOR : stitch - Integer.bitCount(undone & ((1 << stitch) - 1));
        }

        int looseOnes() {
            int loose = 0;
            for (int stitch = 0; stitch < size; stitch++) {
                if (isIn(eaten | loose, at(anchors, stitch))) {
                    loose |= 1 << stitch;
                }
            }
            return loose;
        }

        /** The set, all that its stitches hang on, that these do, and so on. */
        int withAnchors(int set) {
            int all = set;
            for (int stitch = size - 1; stitch >= 0; stitch--) {
                int anchor = at(anchors, stitch);
                if (isIn(all, stitch) && anchor != NO_ANCHOR) {
                    all |= 1 << anchor;
                }
            }
            return all;
        }

        /**
         * Of each of the set the last anchor short of the untouchable ones. No two of these hang together, so that
         * fewer pulls won't do; and each has the least number of all that undo what it must undo.
         */
        int topmostBelow(int set, int untouchable) {
            int tops = 0;
            for (int stitch = 0; stitch < size; stitch++) {
                if (isIn(set, stitch)) {
                    tops |= 1 << topOf(stitch, untouchable);
                }
            }
            return tops;
        }

        private int topOf(int stitch, int untouchable) {
            int top = stitch;
            for (int lower = stitch - 1; lower >= 0; lower--) {
                if (at(anchors, top) == lower && !isIn(untouchable, lower)) {
                    top = lower;
                }
            }
            return top;
        }

        int shortestPattern() {
            for (int p = 1; p < size; p++) {
                if (repeatsBy(p)) {
                    return p;
                }
            }
            return size;
        }

        private boolean repeatsBy(int p) {
            for (int one = 0; one < size; one++) {
                for (int other = one + 1; other < size; other++) {
                    if (areAlike(one, other, p) && at(colours, one) != at(colours, other)) {
                        return false;
                    }
                }
            }
            return true;
        }

        /** Whether a pattern of length p asks for one colour of both. */
        private boolean areAlike(int one, int other, int p) {
            return p > 0 && (one - other) % p == 0 && !isEaten(one) && !isEaten(other);
        }

        int coloursOfHole(int hole) {
            int p = shortestPattern();
            for (int stitch = 0; stitch < size; stitch++) {
                if (p > 0 && (stitch - hole) % p == 0 && !isEaten(stitch)) {
                    return 1 << at(colours, stitch);
                }
            }
            return EVERY_COLOUR;
        }

        int tightnessFrom(int first) {
            int sum = 0;
            for (int stitch = first; stitch < size; stitch++) {
                sum += at(tightnesses, stitch);
            }
            return sum;
        }

        /** The fewest stretches of at most that burden each, from that stitch to the end; too many, if none will do. */
        int stretchesFrom(int first, int burden) {
            int stretches = 0;
            int room = -1;
            for (int stitch = first; stitch < size; stitch++) {
                int tight = at(tightnesses, stitch);
                if (tight > burden) {
                    return STITCHES + 1;
                }
                if (tight > room) {
                    stretches++;
                    room = burden;
                }
                room -= tight;
            }
            return stretches;
        }
    }

    /** The text of weeks. */
    private static final class Pad {
        private static final int WANTS_ACT = 0, WANTS_COLOUR = 1, WANTS_STITCH = 2, WANTS_MENDED = 3, WANTS_KNITTER = 4;
        private static final int CAN_NOT_STAND = -1;

        private final int[] signs = new int[SIGNS];
        int length;

        void append(int sign) {
            put(signs, length, sign);
            length++;
        }

        int firstFault() {
            int wanted = WANTS_ACT;
            for (int place = 0; place < length; place++) {
                wanted = wantedAfter(wanted, place);
                if (wanted == CAN_NOT_STAND) {
                    return place;
                }
            }
            return wanted == WANTS_ACT ? NONE : length;
        }

        private int wantedAfter(int wanted, int place) {
            switch (wanted) {
                case WANTS_COLOUR:
                    return isBelow(colourAt(place), COLOURS) ? WANTS_ACT : CAN_NOT_STAND;
                case WANTS_STITCH:
                    return isBelow(stitchAt(place), STITCHES) ? WANTS_ACT : CAN_NOT_STAND;
                case WANTS_MENDED:
                    return isBelow(stitchAt(place), STITCHES) ? WANTS_KNITTER : CAN_NOT_STAND;
                case WANTS_KNITTER:
                    return isBelow(knitterAt(place), KNITTERS) ? WANTS_ACT : CAN_NOT_STAND;
                default:
                    return wantedBy(kindAt(place));
            }
        }

        private static int wantedBy(int kind) {
            switch (kind) {
                case KNIT:
                    return WANTS_COLOUR;
                case UNPICK:
                case EAT:
                    return WANTS_STITCH;
                case MEND:
                    return WANTS_MENDED;
                default:
                    return CAN_NOT_STAND;
            }
        }

        int kindAt(int place) {
            if (isBelow(knitterAt(place), KNITTERS)) {
                return KNIT;
            }
            switch (at(signs, place)) {
                case '-':
                    return UNPICK;
                case '*':
                    return EAT;
                case '+':
                    return MEND;
                default:
                    return NO_ACT;
            }
        }

        int knitterAt(int place) {
            return at(signs, place) - 'a';
        }

        int colourAt(int place) {
            return at(signs, place) - '0';
        }

        int stitchAt(int place) {
            return at(signs, place) - 'A';
        }
    }

    /** A scarf to try acts on, so that what they would leave can be told and the town's own stays as it is. */
    private static final class Trial {
        final Scarf scarf = new Scarf();
        int acts;
        int reason;
        int mostUndone;
        int allUndone;

        void begin(Scarf from) {
            scarf.copy(from);
            acts = 0;
            reason = CAN_BE;
            mostUndone = 0;
            allUndone = 0;
        }

        boolean act(int kind, int stitch, int colour, int tight) {
            reason = reasonAgainst(kind, stitch);
            if (reason != CAN_BE) {
                return false;
            }
            acts++;
            switch (kind) {
                case UNPICK:
                    countUndone(scarf.unpick(stitch));
                    break;
                case EAT:
                    scarf.eat(stitch);
                    break;
                case MEND:
                    scarf.mend(stitch, tight);
                    break;
                default:
                    scarf.knit(colour, tight);
                    break;
            }
            return true;
        }

        private int reasonAgainst(int kind, int stitch) {
            if (kind == KNIT) {
                return scarf.isFull() ? SCARF_FULL : CAN_BE;
            }
            if (!scarf.has(stitch)) {
                return NO_SUCH_STITCH;
            }
            if (kind == UNPICK) {
                return CAN_BE;
            }
            return scarf.isEaten(stitch) == (kind == EAT) ? WRONG_EATEN : CAN_BE;
        }

        private void countUndone(int undone) {
            mostUndone = Math.max(mostUndone, undone);
            allUndone += undone;
        }
    }

    /** For each stitch and each knitter of it the fewest changes of hands from there on. */
    private static final class HandChanges {
        private static final int CAN_NOT_BE = 1000;

        private final int[] changes = new int[STITCHES * KNITTERS];

        void count(Town town) {
            int last = town.scarf.size - 1;
            for (int stitch = last; stitch >= 0; stitch--) {
                int may = near(at(town.scarf.tightnesses, stitch));
                for (int knitter = 0; knitter < KNITTERS; knitter++) {
                    int later = stitch == last ? 0 : fewestFrom(stitch + 1, knitter);
                    boolean fits = isIn(may, town.tightnessOf(knitter));
                    put(changes, stitch * KNITTERS + knitter, fits ? later : CAN_NOT_BE);
                }
            }
        }

        /** From that stitch on, the change to its knitter from the one ahead told with. */
        private int fewestFrom(int stitch, int ahead) {
            int fewest = CAN_NOT_BE;
            for (int knitter = 0; knitter < KNITTERS; knitter++) {
                fewest = Math.min(fewest, changesBy(stitch, knitter, ahead));
            }
            return fewest;
        }

        private int changesBy(int stitch, int knitter, int ahead) {
            return at(changes, stitch * KNITTERS + knitter) + (knitter == ahead ? 0 : 1);
        }

        int fewest(int size) {
            if (size == 0) {
                return 0;
            }
            int fewest = CAN_NOT_BE;
            for (int knitter = 0; knitter < KNITTERS; knitter++) {
                fewest = Math.min(fewest, at(changes, knitter));
            }
            return fewest < CAN_NOT_BE ? fewest : NONE;
        }

        /** The least knitter by whom no more changes are left, stitch by stitch, is the one of the first row. */
        int knitterOf(int stitch) {
            int knitter = 0;
            for (int other = 1; other < KNITTERS; other++) {
                if (at(changes, other) < at(changes, knitter)) {
                    knitter = other;
                }
            }
            for (int place = 1; place <= stitch; place++) {
                knitter = leastAfter(place, knitter);
            }
            return knitter;
        }

        private int leastAfter(int stitch, int ahead) {
            int least = 0;
            for (int knitter = 1; knitter < KNITTERS; knitter++) {
                if (changesBy(stitch, knitter, ahead) < changesBy(stitch, least, ahead)) {
                    least = knitter;
                }
            }
            return least;
        }
    }
}
