import java.math.BigInteger;
import java.util.ArrayList;
import java.util.HashMap;
import java.util.List;
import java.util.Map;
import java.util.regex.Matcher;
import java.util.regex.Pattern;

/**
 * The document told a second time, by other means: stitches that point at one another, patterns for the pad, and
 * trying all that there is where the class reckons. What tries all is slow: see triesTooMuch.
 */
final class Model {
    static final int NONE = -6, UNKNOWN = -1, OUTSIDE = -2, STATE = -3, FULL = -4, NO = -5;
    static final long LOST = -1000000000000000000L;

    private static final String ACT = "(?:[a-d][0-3]|[-*][A-X]|\\+[A-X][a-d])";
    private static final Pattern ONE_ACT = Pattern.compile(ACT);
    private static final Pattern WHOLE = Pattern.compile(ACT + "*");
    private static final Pattern BEGUN = Pattern.compile(ACT + "*(?:[a-d]|[-*]|\\+[A-X]?)?");

    static final class Deed {
        int colour, tight;
        Deed on;
        boolean eaten;
    }

    static final class Town {
        List<Deed> scarf = new ArrayList<>();
        int[] knitters = {5, 5, 5, 5};
        List<int[]> sights = new ArrayList<>();

        Town twin() {
            Town t = new Town();
            t.scarf = twins(scarf);
            t.knitters = knitters.clone();
            t.sights = new ArrayList<>(sights);
            return t;
        }
    }

    private Town town = new Town();
    private String pad = "";
    private final Town[] images = new Town[2];

    // what the acts of the last trial left
    private List<Deed> trial;
    private int acts, reason, most, all;

    static List<Deed> twins(List<Deed> scarf) {
        Map<Deed, Deed> twin = new HashMap<>();
        List<Deed> row = new ArrayList<>();
        for (Deed d : scarf) {
            Deed t = new Deed();
            t.colour = d.colour;
            t.tight = d.tight;
            t.eaten = d.eaten;
            t.on = d.on == null ? null : twin.get(d.on);
            twin.put(d, t);
            row.add(t);
        }
        return row;
    }

    private static boolean in(int v, int from, int to) {
        return v >= from && v <= to;
    }

    private int n() {
        return town.scarf.size();
    }

    private boolean isThere(int stitch) {
        return in(stitch, 0, n() - 1);
    }

    private boolean areThere(int set) {
        for (int i = 0; i < 32; i++) {
            if ((set >>> i & 1) != 0 && !isThere(i)) {
                return false;
            }
        }
        return true;
    }

    private static boolean hangsOn(Deed d, Deed other) {
        for (Deed at = d; at != null; at = at.on) {
            if (at == other) {
                return true;
            }
        }
        return false;
    }

    private static boolean loose(Deed d) {
        return d.on != null && (d.on.eaten || loose(d.on));
    }

    private static int bits(List<Deed> row, boolean loose) {
        int set = 0;
        for (int i = 0; i < row.size(); i++) {
            if (loose ? loose(row.get(i)) : row.get(i).eaten) {
                set |= 1 << i;
            }
        }
        return set;
    }

    int stitch(int colour, int tight, int hangs) {
        if (hangs != -1 && !isThere(hangs)) {
            return UNKNOWN;
        }
        if (!in(colour, 0, 3) || !in(tight, 0, 9)) {
            return OUTSIDE;
        }
        if (n() == 24) {
            return FULL;
        }
        Deed d = new Deed();
        d.colour = colour;
        d.tight = tight;
        d.on = hangs == -1 ? null : town.scarf.get(hangs);
        town.scarf.add(d);
        return n();
    }

    int cast() {
        int were = n();
        town.scarf.clear();
        return were;
    }

    int knitter(int knitter, int tight) {
        if (!in(knitter, 0, 3)) {
            return UNKNOWN;
        }
        if (!in(tight, 0, 9)) {
            return OUTSIDE;
        }
        int was = town.knitters[knitter];
        town.knitters[knitter] = tight;
        return was;
    }

    int say(int sign) {
        if (!in(sign, 33, 126)) {
            return OUTSIDE;
        }
        if (pad.length() == 60) {
            return FULL;
        }
        pad = pad + (char) sign;
        return pad.length();
    }

    int wipe() {
        int were = pad.length();
        pad = "";
        return were;
    }

    int fault() {
        if (WHOLE.matcher(pad).matches()) {
            return NONE;
        }
        int stands = 0;
        while (stands < pad.length() && BEGUN.matcher(pad.substring(0, stands + 1)).matches()) {
            stands++;
        }
        return stands;
    }

    private int actOn(List<Deed> row, char kind, int stitch, int knitter, int colour) {
        if (kind == 'k') {
            if (row.size() == 24) {
                return 2;
            }
            Deed d = new Deed();
            d.colour = colour;
            d.tight = town.knitters[knitter];
            for (Deed other : row) {
                if (other.colour == colour && !other.eaten) {
                    d.on = other;
                }
            }
            row.add(d);
            return 0;
        }
        if (stitch >= row.size()) {
            return 1;
        }
        Deed d = row.get(stitch);
        if (kind == '-') {
            int before = row.size();
            row.removeIf(other -> hangsOn(other, d));
            most = Math.max(most, before - row.size());
            all += before - row.size();
            return 0;
        }
        if (d.eaten != (kind == '+')) {
            return 3;
        }
        d.eaten = kind == '*';
        if (kind == '+') {
            d.tight = town.knitters[knitter];
        }
        return 0;
    }

    private void begin() {
        trial = twins(town.scarf);
        acts = 0;
        reason = 0;
        most = 0;
        all = 0;
    }

    private boolean tryPad() {
        begin();
        Matcher m = ONE_ACT.matcher(pad);
        while (m.find()) {
            String act = m.group();
            char first = act.charAt(0);
            boolean knits = first >= 'a';
            int knitter = knits ? first - 'a' : act.length() == 3 ? act.charAt(2) - 'a' : 0;
            reason = actOn(trial, knits ? 'k' : first, act.charAt(1) - 'A', knitter, act.charAt(1) - '0');
            if (reason != 0) {
                return false;
            }
            acts++;
        }
        return true;
    }

    int judge(int what) {
        if (!in(what, 0, 1)) {
            return OUTSIDE;
        }
        if (fault() != NONE) {
            return NO;
        }
        return tryPad() ? NONE : what == 0 ? acts : reason;
    }

    int done() {
        if (fault() != NONE || !tryPad()) {
            return NO;
        }
        town.scarf = trial;
        pad = "";
        return acts;
    }

    int behind(int what) {
        if (!in(what, 0, 3)) {
            return OUTSIDE;
        }
        if (fault() != NONE || !tryPad()) {
            return NO;
        }
        return what == 0 ? trial.size() : what == 1 ? bits(trial, false) : what == 2 ? bits(trial, true) : most;
    }

    private static int trait(List<Deed> row, int stitch, int what) {
        Deed d = row.get(stitch);
        return what == 0 ? d.colour : what == 1 ? d.tight : d.on == null ? NONE : row.indexOf(d.on);
    }

    int of(int stitch, int what) {
        if (!in(what, 0, 2)) {
            return OUTSIDE;
        }
        if (fault() != NONE || !tryPad()) {
            return NO;
        }
        return in(stitch, 0, trial.size() - 1) ? trait(trial, stitch, what) : UNKNOWN;
    }

    int pull(int stitch) {
        if (!isThere(stitch)) {
            return UNKNOWN;
        }
        return Integer.bitCount(undoneBy(1 << stitch));
    }

    private int undoneBy(int pulls) {
        int undone = 0;
        for (int i = 0; i < n(); i++) {
            for (int j = 0; j < n(); j++) {
                if ((pulls >> j & 1) != 0 && hangsOn(town.scarf.get(i), town.scarf.get(j))) {
                    undone |= 1 << i;
                }
            }
        }
        return undone;
    }

    int pulls(int gone, int stay, int what) {
        if (!areThere(gone) || !areThere(stay)) {
            return UNKNOWN;
        }
        if (!in(what, 0, 1)) {
            return OUTSIDE;
        }
        int best = -1;
        for (int set = 0; set < 1 << n(); set++) {
            int undone = undoneBy(set);
            boolean will = (gone & ~undone) == 0 && (stay & undone) == 0;
            if (will && (best == -1 || Integer.bitCount(set) < Integer.bitCount(best))) {
                best = set;
            }
        }
        return best == -1 ? NONE : what == 0 ? Integer.bitCount(best) : best;
    }

    int pattern() {
        int p = n() == 0 ? 0 : 1;
        while (p > 0 && coloursClash(p)) {
            p++;
        }
        return p;
    }

    private boolean coloursClash(int p) {
        int[] seen = new int[p];
        for (int i = 0; i < n(); i++) {
            if (!town.scarf.get(i).eaten) {
                seen[i % p] |= 1 << town.scarf.get(i).colour;
            }
        }
        for (int s : seen) {
            if (Integer.bitCount(s) > 1) {
                return true;
            }
        }
        return false;
    }

    int hole(int stitch) {
        if (!isThere(stitch)) {
            return UNKNOWN;
        }
        if (!town.scarf.get(stitch).eaten) {
            return STATE;
        }
        int p = pattern();
        int may = 0;
        for (int i = stitch % p; i < n(); i += p) {
            if (!town.scarf.get(i).eaten) {
                may |= 1 << town.scarf.get(i).colour;
            }
        }
        return may == 0 ? 15 : may;
    }

    int rip(int n) {
        if (!in(n, 0, 1)) {
            return OUTSIDE;
        }
        return images[n] == null ? STATE : ripped(0, 0, images[n].scarf, new HashMap<>());
    }

    private int ripped(int i, int j, List<Deed> other, Map<Integer, Integer> known) {
        if (i == n() || j == other.size()) {
            return n() - i + other.size() - j;
        }
        Integer k = known.get(i * 100 + j);
        if (k == null) {
            k = 1 + Math.min(ripped(i + 1, j, other, known), ripped(i, j + 1, other, known));
            if (town.scarf.get(i).colour == other.get(j).colour) {
                k = Math.min(k, ripped(i + 1, j + 1, other, known));
            }
            known.put(i * 100 + j, k);
        }
        return k;
    }

    int hold(int k, int what) {
        if (!in(k, 1, 9) || !in(what, 0, 1)) {
            return OUTSIDE;
        }
        Map<Integer, Integer> known = new HashMap<>();
        int least = burden(0, k, known);
        int first = 0;
        int sum = 0;
        while (Math.max(sum, burden(first, k - 1, known)) != least) {
            sum += town.scarf.get(first).tight;
            first++;
        }
        return what == 0 ? least : first;
    }

    private int burden(int from, int wearers, Map<Integer, Integer> known) {
        if (from == n()) {
            return 0;
        }
        if (wearers == 0) {
            return 1000000;
        }
        Integer least = known.get(from * 100 + wearers);
        if (least == null) {
            least = burden(from, wearers - 1, known);
            int sum = 0;
            for (int to = from; to < n(); to++) {
                sum += town.scarf.get(to).tight;
                least = Math.min(least, Math.max(sum, burden(to + 1, wearers - 1, known)));
            }
            known.put(from * 100 + wearers, least);
        }
        return least;
    }

    /** The first row of as few changes as can be, its changes ahead of it as a letter; null: none. */
    private String handRow() {
        String[] best = new String[4];
        for (int i = 0; i < n(); i++) {
            String[] longer = new String[4];
            for (int k = 0; k < 4; k++) {
                if (Math.abs(town.knitters[k] - town.scarf.get(i).tight) > 1) {
                    continue;
                }
                if (i == 0) {
                    longer[k] = "A" + k;
                }
                for (int b = 0; i > 0 && b < 4; b++) {
                    if (best[b] != null) {
                        String row = (char) (best[b].charAt(0) + (b == k ? 0 : 1)) + best[b].substring(1) + k;
                        longer[k] = longer[k] == null || row.compareTo(longer[k]) < 0 ? row : longer[k];
                    }
                }
            }
            best = longer;
        }
        String first = null;
        for (String row : best) {
            if (row != null && (first == null || row.compareTo(first) < 0)) {
                first = row;
            }
        }
        return first;
    }

    int hands() {
        String row = handRow();
        return n() == 0 ? 0 : row == null ? NONE : row.charAt(0) - 'A';
    }

    int who(int stitch) {
        if (!isThere(stitch)) {
            return UNKNOWN;
        }
        String row = handRow();
        return row == null ? NONE : row.charAt(1 + stitch) - '0';
    }

    int seen(int v, boolean may) {
        if (!in(v, 0, 9)) {
            return OUTSIDE;
        }
        if (town.sights.size() == 8) {
            return FULL;
        }
        town.sights.add(new int[] {v, may ? 1 : 0});
        return town.sights.size();
    }

    int forget() {
        int were = town.sights.size();
        town.sights.clear();
        return were;
    }

    int tights() {
        int fit = 0;
        for (int his = 0; his < 10; his++) {
            boolean fits = true;
            for (int[] sight : town.sights) {
                fits &= (Math.abs(his - sight[0]) <= 1) == (sight[1] == 1);
            }
            fit |= fits ? 1 << his : 0;
        }
        return fit;
    }

    int next(int what) {
        if (!in(what, 0, 1)) {
            return OUTSIDE;
        }
        int fit = tights();
        int best = -1;
        int least = 99;
        for (int v = 0; v < 10; v++) {
            int may = 0;
            int not = 0;
            for (int his = 0; his < 10; his++) {
                if ((fit >> his & 1) != 0) {
                    may += Math.abs(his - v) <= 1 ? 1 : 0;
                    not += Math.abs(his - v) <= 1 ? 0 : 1;
                }
            }
            if (Math.max(may, not) < least) {
                least = Math.max(may, not);
                best = v;
            }
        }
        return fit == 0 ? NONE : what == 0 ? best : least;
    }

    long moths(int set, int t, int part) {
        if (!areThere(set)) {
            return LOST + UNKNOWN;
        }
        if (!in(t, 0, 10) || !in(part, 0, 1)) {
            return LOST + OUTSIDE;
        }
        int needed = 0;
        for (int i = 0; i < n(); i++) {
            for (int j = 0; j < n(); j++) {
                if ((set >> j & 1) != 0 && hangsOn(town.scarf.get(j), town.scarf.get(i))) {
                    needed |= 1 << i;
                }
            }
        }
        if (Integer.bitCount(needed) > 18) {
            return LOST + STATE;
        }
        List<Deed> row = twins(town.scarf);
        List<Deed> free = new ArrayList<>();
        for (Deed d : row) {
            if (!d.eaten) {
                free.add(d);
            }
        }
        BigInteger upper = BigInteger.ZERO;
        for (int night = 0; night < 1 << free.size(); night++) {
            for (int i = 0; i < free.size(); i++) {
                free.get(i).eaten = (night >> i & 1) != 0;
            }
            if ((set & (bits(row, false) | bits(row, true))) == 0) {
                int eaten = Integer.bitCount(night);
                upper = upper.add(BigInteger.valueOf(t).pow(eaten)
                        .multiply(BigInteger.valueOf(10 - t).pow(free.size() - eaten)));
            }
        }
        BigInteger lower = BigInteger.TEN.pow(free.size());
        BigInteger common = upper.gcd(lower);
        return (part == 0 ? upper : lower).divide(common).longValueExact();
    }

    int year(int seed, int m, int what) {
        if (!in(seed, 0, 9999) || !in(m, 1, 99) || !in(what, 0, 2)) {
            return OUTSIDE;
        }
        begin();
        long x = seed;
        for (int i = 0; i < m; i++) {
            x = (75 * x + 74) % 65537;
            int stitch = (int) (x / 8 % 24);
            switch ((int) (x % 8)) {
                case 0 -> actOn(trial, '-', stitch, 0, 0);
                case 1 -> actOn(trial, '*', stitch, 0, 0);
                case 2 -> actOn(trial, '+', stitch, (int) (x / 192 % 4), 0);
                default -> actOn(trial, 'k', 0, (int) (x / 8 % 4), (int) (x / 32 % 4));
            }
        }
        int hurt = Integer.bitCount(bits(trial, false) | bits(trial, true));
        return what == 0 ? trial.size() : what == 1 ? hurt : all;
    }

    int image(int n) {
        if (!in(n, 0, 1)) {
            return OUTSIDE;
        }
        images[n] = town.twin();
        return 1;
    }

    int restore(int n) {
        if (!in(n, 0, 1)) {
            return OUTSIDE;
        }
        if (images[n] == null) {
            return STATE;
        }
        town = images[n].twin();
        return 1;
    }

    int told(int what) {
        switch (what) {
            case 0: return pad.length();
            case 1: return n();
            case 2: return bits(town.scarf, false);
            case 3: return town.sights.size();
            case 4: return bits(town.scarf, true);
            case 10: case 11: case 12: case 13: return town.knitters[what - 10];
            default:
        }
        for (int i = 0; i < n(); i++) {
            for (int trait = 0; trait < 3; trait++) {
                if (what == 100 * (1 + i) + trait) {
                    return trait(town.scarf, i, trait);
                }
            }
        }
        return OUTSIDE;
    }

    /** Whether all subsets of these stitches are too many to try. */
    boolean triesTooMuch(int most) {
        return n() > most;
    }
}
