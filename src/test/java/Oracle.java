import java.math.BigInteger;
import java.util.ArrayList;
import java.util.List;
import java.util.TreeMap;
import java.util.regex.Matcher;
import java.util.regex.Pattern;

/**
 * The document told a second time, as slowly and plainly as can be: everything is tried out
 * step by step. RandomRunsTest holds StoneGhosts against it.
 */
public final class Oracle {
    static final int UNKNOWN = -1, OUTSIDE = -2, STATE = -3, FULL = -4, NO = -5, NONE = -6;
    static final BigInteger GONE = BigInteger.TEN.pow(18).negate();
    static final Pattern ACT = Pattern.compile("([a-e])(?:([A-H])|([oxw])([1-9])|([1-9])|\\+([a-e]))");

    static final class Stone {
        int thick, hollow, damp, fresh = NONE, pulls;
        int[] fat = new int[8];

        Stone copy() {
            Stone s = new Stone();
            s.thick = thick;
            s.hollow = hollow;
            s.damp = damp;
            s.fresh = fresh;
            s.pulls = pulls;
            s.fat = fat.clone();
            return s;
        }
    }

    record Sight(int drawn, int n, boolean shows) { }

    static final class World {
        TreeMap<Integer, Stone> stones = new TreeMap<>();
        int[][] pictures = new int[8][];
        int[] set = {20, 3000};
        int[] hairs = new int[6];
        List<Sight> sights = new ArrayList<>();

        World copy() {
            World w = new World();
            stones.forEach((k, v) -> w.stones.put(k, v.copy()));
            for (int i = 0; i < 8; i++) {
                w.pictures[i] = pictures[i].clone();
            }
            w.set = set.clone();
            w.hairs = hairs.clone();
            w.sights = new ArrayList<>(sights);
            return w;
        }

        int deep(int p) {
            return pictures[p][0];
        }

        int wearOf(int p) {
            return pictures[p][1] / 3 + 1;
        }
    }

    World w = new World();
    String pad = "";
    World[] images = new World[2];

    /** What playing the PAD came to. */
    World after;
    int acts, firstBad, why, pulled, haunted, haunter;
    int[] kindCount;

    public Oracle() {
        for (int i = 0; i < 8; i++) {
            w.pictures[i] = new int[] {30, 5, 10};
        }
    }

    static boolean out(int v, int low, int high) {
        return v < low || v > high;
    }

    public int stone(int s, int thick, int hollow, int damp) {
        if (out(s, 0, 4)) return UNKNOWN;
        if (out(thick, 0, 9999) || out(hollow, 0, 99) || out(damp, 0, 20)) return OUTSIDE;
        Stone n = new Stone();
        n.thick = thick;
        n.hollow = hollow;
        n.damp = damp;
        w.stones.put(s, n);
        return w.stones.size();
    }

    public int smash(int s) {
        return w.stones.remove(s) == null ? UNKNOWN : w.stones.size();
    }

    public int picture(int p, int deep, int fine, int pay) {
        if (out(p, 0, 7)) return UNKNOWN;
        if (out(deep, 1, 60) || out(fine, 1, 9) || out(pay, 0, 999)) return OUTSIDE;
        int was = w.pictures[p][0];
        w.pictures[p] = new int[] {deep, fine, pay};
        return was;
    }

    public int set(int which, int v) {
        if (out(which, 0, 1) || out(v, 0, which == 0 ? 99 : 9999)) return OUTSIDE;
        int was = w.set[which];
        w.set[which] = v;
        return was;
    }

    public int hairs(int c, int v) {
        if (out(c, 0, 5) || out(v, -9, 9)) return OUTSIDE;
        int was = w.hairs[c] + 9;
        w.hairs[c] = v;
        return was;
    }

    public int say(int sign) {
        if (out(sign, 33, 126)) return OUTSIDE;
        if (pad.length() == 60) return FULL;
        pad += (char) sign;
        return pad.length();
    }

    public int wipe() {
        int n = pad.length();
        pad = "";
        return n;
    }

    /** The longest start of the PAD that some SHOP begins with. */
    public int fault() {
        Pattern whole = Pattern.compile("(?:" + ACT.pattern() + ")*");
        if (whole.matcher(pad).matches()) return NONE;
        for (int n = pad.length(); n > 0; n--) {
            Matcher m = whole.matcher(pad.substring(0, n));
            if (m.matches() || m.hitEnd()) return n;
        }
        return 0;
    }

    int reason(World v, int s, char verb, int amount) {
        if (!v.stones.containsKey(s)) return 1;
        if (verb == '+' && !v.stones.containsKey(amount)) return 1;
        if (verb == '+' && s == amount) return 2;
        Stone t = v.stones.get(s);
        if (verb == 'D' && t.fresh != NONE) return 3;
        if (verb == 'P' && t.fresh == NONE) return 4;
        if ((verb == 'D' || verb == 'P') && t.hollow > v.set[0]) return 5;
        if ((verb == 'o' || verb == 'x') && t.thick - 3 * amount < v.set[1]) return 6;
        if (verb == 'P' && t.thick < v.set[1]) return 6;
        return 0;
    }

    void act(World v, int s, char verb, int amount) {
        Stone t = v.stones.get(s);
        if (verb == 'D') {
            drawOn(v, t, amount);
        } else if (verb == 'w') {
            t.damp = Math.min(20, t.damp + amount);
        } else if (verb == '+') {
            t.thick = Math.min(9999, t.thick + v.stones.remove(amount).thick);
        } else if (verb == 'P') {
            for (int i = 0; i < amount; i++) pull(v, t);
        } else {
            for (int i = 0; i < amount; i++) minute(t, verb == 'o');
        }
    }

    static void drawOn(World v, Stone t, int p) {
        t.fat[p] = v.deep(p);
        t.fresh = p;
        t.pulls = 0;
    }

    static void minute(Stone t, boolean circles) {
        t.thick -= 3;
        for (int p = 0; p < 8; p++) t.fat[p] = Math.max(0, t.fat[p] - 3);
        t.fresh = NONE;
        t.pulls = 0;
        t.hollow = circles ? Math.min(99, t.hollow + 2) : Math.max(0, t.hollow - 1);
    }

    static boolean ghostIsMore(Stone t) {
        for (int p = 0; p < 8; p++) {
            if (p != t.fresh && t.fat[p] > t.fat[t.fresh]) return true;
        }
        return false;
    }

    /** DAMP and FAT by one pull. */
    static void wearOnce(World v, Stone t) {
        t.damp = Math.max(0, t.damp - 1);
        t.pulls++;
        if (t.pulls % 10 == 0) t.fat[t.fresh] = Math.max(0, t.fat[t.fresh] - v.wearOf(t.fresh));
    }

    void pull(World v, Stone t) {
        boolean filled = t.damp <= 3, grey = t.damp >= 15;
        wearOnce(v, t);
        pulled++;
        int kind = filled ? 1 : grey ? 2 : ghostIsMore(t) ? 3 : t.fat[t.fresh] == 0 ? 4 : 0;
        kindCount[kind]++;
        if (kind == 3 && haunted == NONE) {
            haunted = pulled;
            for (int p = 7; p >= 0; p--) {
                if (p != t.fresh && (haunter == NONE || t.fat[p] >= t.fat[haunter])) haunter = p;
            }
        }
    }

    void fresh() {
        after = w.copy();
        acts = pulled = 0;
        firstBad = why = haunted = haunter = NONE;
        kindCount = new int[5];
    }

    int play() {
        if (fault() != NONE) return NO;
        fresh();
        Matcher m = ACT.matcher(pad);
        while (m.find()) {
            int s = m.group(1).charAt(0) - 'a';
            char verb;
            int amount;
            if (m.group(2) != null) {
                verb = 'D';
                amount = m.group(2).charAt(0) - 'A';
            } else if (m.group(3) != null) {
                verb = m.group(3).charAt(0);
                amount = Integer.parseInt(m.group(4));
            } else if (m.group(5) != null) {
                verb = 'P';
                amount = Integer.parseInt(m.group(5));
            } else {
                verb = '+';
                amount = m.group(6).charAt(0) - 'a';
            }
            int r = reason(after, s, verb, amount);
            if (r != 0) {
                firstBad = acts;
                why = r;
                return STATE;
            }
            act(after, s, verb, amount);
            acts++;
        }
        return 0;
    }

    public int judge(int what) {
        if (out(what, 0, 2)) return OUTSIDE;
        int r = play();
        if (r == NO) return NO;
        return what == 0 ? firstBad : what == 1 ? why : r == STATE ? STATE : pulled;
    }

    public int kinds(int kind) {
        if (out(kind, 0, 4)) return OUTSIDE;
        int r = play();
        return r != 0 ? r : kindCount[kind];
    }

    static int tell(Stone t, int what) {
        return new int[] {t.thick, t.hollow, t.damp, t.fresh, t.pulls}[what];
    }

    public int behind(int s, int what) {
        if (!w.stones.containsKey(s)) return UNKNOWN;
        if (out(what, 0, 4)) return OUTSIDE;
        int r = play();
        if (r != 0) return r;
        return after.stones.containsKey(s) ? tell(after.stones.get(s), what) : UNKNOWN;
    }

    public int fat(int s, int p) {
        if (!w.stones.containsKey(s) || out(p, 0, 7)) return UNKNOWN;
        int r = play();
        if (r != 0) return r;
        return after.stones.containsKey(s) ? after.stones.get(s).fat[p] : UNKNOWN;
    }

    public int sky(int what) {
        if (out(what, 0, 1)) return OUTSIDE;
        int r = play();
        return r != 0 ? r : what == 0 ? haunted : haunter;
    }

    public int done() {
        int r = play();
        if (r != 0) return r;
        w = after;
        pad = "";
        return acts;
    }

    static int cleanOf(World v, Stone t) {
        Stone c = t.copy();
        for (int n = 0; ; n++) {
            wearOnce(v, c);
            if (ghostIsMore(c) || c.fat[c.fresh] == 0) return n;
        }
    }

    public int clean(int s) {
        Stone t = w.stones.get(s);
        if (t == null) return UNKNOWN;
        return t.fresh == NONE ? STATE : cleanOf(w, t);
    }

    boolean lasts(Stone t, int p, int m) {
        Stone c = t.copy();
        drawOn(w, c, p);
        return cleanOf(w, c) >= m;
    }

    public int grind(int s, int p, int m) {
        if (!w.stones.containsKey(s) || out(p, 0, 7)) return UNKNOWN;
        if (out(m, 0, 999)) return OUTSIDE;
        Stone c = w.stones.get(s).copy();
        for (int n = 0; n < 4000; n++) {
            if (c.thick < w.set[1]) return NONE;
            if (lasts(c, p, m)) return n;
            minute(c, false);
        }
        return NONE;
    }

    public int lives(int s, int m) {
        if (!w.stones.containsKey(s)) return UNKNOWN;
        if (out(m, 1, 99)) return OUTSIDE;
        int thick = w.stones.get(s).thick, n = 0;
        while (thick - 3 * m >= w.set[1]) {
            thick -= 3 * m;
            n++;
        }
        return n;
    }

    int bestPay;
    int[] bestRow;

    /** All rows, in their order: so the first of most PAY is kept. */
    void rows(int set, int m, int p, int[] row, int pay) {
        if (p == 8) {
            if (pay > bestPay) {
                bestPay = pay;
                bestRow = row.clone();
            }
            return;
        }
        if ((set >> p & 1) == 1) {
            for (int s = 0; s < 5; s++) {
                Stone t = w.stones.get(s);
                boolean used = false;
                for (int q = 0; q < p; q++) used |= row[q] == s;
                if (t == null || used || t.hollow > w.set[0] || t.thick < w.set[1]) continue;
                if (!lasts(t, p, m)) continue;
                row[p] = s;
                rows(set, m, p + 1, row, pay + w.pictures[p][2]);
            }
        }
        row[p] = NONE;
        rows(set, m, p + 1, row, pay);
    }

    public int orders(int set, int m, int p) {
        if (p != -1 && (out(p, 0, 7) || (set & 1 << p) == 0)) return UNKNOWN;
        if (out(set, 0, 255) || out(m, 0, 999)) return OUTSIDE;
        bestPay = -1;
        rows(set, m, 0, new int[8], 0);
        return p == -1 ? bestPay : bestRow[p];
    }

    int leastMissed, firstColour;

    void colourRows(int k, List<Integer> row, int missed) {
        int j = row.size();
        if (j == k) {
            if (missed < leastMissed) {
                leastMissed = missed;
                firstColour = row.get(0);
            }
            return;
        }
        for (int c = 0; c < k; c++) {
            if (row.contains(c)) continue;
            row.add(c);
            colourRows(k, row, missed + Math.abs(j - w.hairs[c]));
            row.remove(j);
        }
    }

    public int colours(int k, int what) {
        if (out(k, 1, 6) || out(what, 0, 1)) return OUTSIDE;
        leastMissed = Integer.MAX_VALUE;
        colourRows(k, new ArrayList<>(), 0);
        return what == 0 ? leastMissed : firstColour;
    }

    public long crack(int s, int v, int m, int what, int part) {
        if (!w.stones.containsKey(s)) return GONE.longValue() + UNKNOWN;
        if (out(v, 0, 150) || out(m, 0, 9) || out(what, 0, 1) || out(part, 0, 1)) {
            return GONE.longValue() + OUTSIDE;
        }
        int t = Math.min(10, Math.max(0, v - w.stones.get(s).thick / 100));
        // In 10^m parts: it cracks on pull i behind i less 1 that held.
        BigInteger whole = BigInteger.TEN.pow(m), mean = BigInteger.ZERO, hold = whole;
        for (int i = 1; i <= m; i++) {
            BigInteger cracks = hold.multiply(BigInteger.valueOf(t)).divide(BigInteger.TEN);
            mean = mean.add(cracks.multiply(BigInteger.valueOf(i)));
            hold = hold.subtract(cracks);
        }
        mean = mean.add(hold.multiply(BigInteger.valueOf(m + 1)));
        BigInteger upper = what == 0 ? hold : mean;
        return (part == 0 ? upper : whole).divide(upper.gcd(whole)).longValue();
    }

    public int seen(int p, int n, boolean shows) {
        if (out(p, 0, 7)) return UNKNOWN;
        if (out(n, 0, 999)) return OUTSIDE;
        if (w.sights.size() == 8) return FULL;
        w.sights.add(new Sight(p, n, shows));
        return w.sights.size();
    }

    public int forget() {
        int n = w.sights.size();
        w.sights.clear();
        return n;
    }

    boolean shows(int first, int g, int drawn, int n) {
        if (first == drawn) return false;
        Stone t = new Stone();
        drawOn(w, t, first);
        for (int i = 0; i < g; i++) minute(t, false);
        drawOn(w, t, drawn);
        for (int i = 0; i < n; i++) wearOnce(w, t);
        return t.fat[first] > t.fat[drawn];
    }

    List<Integer> twos() {
        List<Integer> all = new ArrayList<>();
        for (int p = 0; p < 8; p++) {
            for (int g = 1; g <= 20; g++) {
                boolean fits = true;
                for (Sight s : w.sights) fits &= shows(p, g, s.drawn(), s.n()) == s.shows();
                if (fits) all.add(100 * p + g);
            }
        }
        return all;
    }

    public int whose(int i) {
        List<Integer> all = twos();
        return i == -1 ? all.size() : i < 0 || i >= all.size() ? NONE : all.get(i);
    }

    public int suspects() {
        int bits = 0;
        for (int two : twos()) bits |= 1 << two / 100;
        return bits;
    }

    public int next(int n, int what) {
        if (out(n, 0, 999) || out(what, 0, 1)) return OUTSIDE;
        List<Integer> all = twos();
        if (all.isEmpty()) return NONE;
        int best = NONE, fewest = 1000;
        for (int q = 0; q < 8; q++) {
            int yes = 0;
            for (int two : all) yes += shows(two / 100, two % 100, q, n) ? 1 : 0;
            int left = Math.max(yes, all.size() - yes);
            if (left < fewest) {
                fewest = left;
                best = q;
            }
        }
        return what == 0 ? best : fewest;
    }

    public int year(int seed, int m, int what) {
        if (out(seed, 0, 9999) || out(m, 1, 99) || out(what, 0, 2)) return OUTSIDE;
        fresh();
        long x = seed;
        for (int i = 0; i < m; i++) {
            x = (75 * x + 74) % 65537;
            int kind = (int) (x / 5 % 4), rest = (int) (x / 20);
            char verb = "DxwP".charAt(kind);
            int amount = kind == 0 ? rest % 8 : 1 + rest % 9;
            if (reason(after, (int) (x % 5), verb, amount) == 0) act(after, (int) (x % 5), verb, amount);
        }
        int haveFresh = 0;
        for (Stone t : after.stones.values()) haveFresh += t.fresh != NONE ? 1 : 0;
        return what == 0 ? pulled : what == 1 ? kindCount[3] : haveFresh;
    }

    public int image(int k) {
        if (out(k, 0, 1)) return OUTSIDE;
        images[k] = w.copy();
        return 1;
    }

    public int restore(int k) {
        if (out(k, 0, 1)) return OUTSIDE;
        if (images[k] == null) return STATE;
        w = images[k].copy();
        return 1;
    }

    public int told(int what) {
        TreeMap<Integer, Integer> all = new TreeMap<>();
        all.put(0, pad.length());
        int bits = 0;
        for (int s : w.stones.keySet()) bits |= 1 << s;
        all.put(1, bits);
        all.put(2, w.set[0]);
        all.put(3, w.set[1]);
        all.put(4, w.sights.size());
        w.stones.forEach((s, t) -> {
            for (int i = 0; i < 5; i++) all.put(10 * (1 + s) + i, tell(t, i));
            for (int p = 0; p < 8; p++) all.put(100 * (1 + s) + p, t.fat[p]);
        });
        for (int p = 0; p < 8; p++) {
            for (int i = 0; i < 3; i++) all.put(1000 * (1 + p) + i, w.pictures[p][i]);
        }
        for (int c = 0; c < 6; c++) all.put(10000 + c, w.hairs[c] + 9);
        return all.getOrDefault(what, OUTSIDE);
    }
}
