import java.math.BigInteger;

/** The edges that the document names, sentence by sentence: promises 21 to 27. */
public final class GhostsEdgesTest {
    private static final Due DUE = new Due();

    public static void main(String[] args) {
        crackTenths();
        crackOfThick();
        crackInLowestTerms();
        crackWhateverTheStone();
        sightsCounted();
        sightsNumbers();
        forgotten();
        whoseWithout();
        whoseByMinutes();
        whoseAtThePull();
        whoseOfItself();
        whoseOfSeveral();
        whoseRising();
        suspectsAsBits();
        nextLeast();
        nextBehindSights();
        yearOfOneAct();
        yearOfOneActFromFresh();
        yearHaunted();
        yearIfThatCanBe();
        yearFromAllAsItIs();
        yearNumbers();
        DUE.end();
    }

    private static StoneGhosts one(int thick) {
        StoneGhosts x = new StoneGhosts();
        x.stone(0, thick, 0, 0);
        return x;
    }

    private static void fraction(String name, StoneGhosts x, int v, int m, int what, long upper, long lower) {
        DUE.is(name + ", upper", x.crack(0, v, m, what, 0), upper);
        DUE.is(name + ", lower", x.crack(0, v, m, what, 1), lower);
    }

    /** "with as many tenths as v is more than THICK by 100 (cut), 0 at least, 10 at most." */
    private static void crackTenths() {
        int[] uppers = {1, 9, 4, 7, 3, 1, 2, 3, 1, 1, 0};
        int[] lowers = {1, 10, 5, 10, 5, 2, 5, 10, 5, 10, 1};
        StoneGhosts x = one(2000);
        for (int t = 0; t <= 10; t++) fraction("21: " + t + " tenths", x, 20 + t, 1, 0, uppers[t], lowers[t]);
        for (int v : new int[] {0, 1, 10, 19, 20}) fraction("21: 0 at least, v " + v, x, v, 1, 0, 1, 1);
        for (int v : new int[] {30, 31, 40, 149, 150}) fraction("21: 10 at most, v " + v, x, v, 1, 0, 0, 1);
    }

    /** "THICK by 100 (cut)". */
    private static void crackOfThick() {
        int[][] rows = {{0, 0, 0}, {0, 1, 1}, {99, 1, 1}, {100, 1, 0}, {100, 2, 1}, {199, 2, 1}, {3099, 31, 1}, {3100, 31, 0},
            {9999, 99, 0}, {9999, 100, 1}, {9999, 109, 10}, {9999, 150, 10}, {9900, 100, 1}, {9899, 100, 2}, {0, 10, 10}, {0, 9, 9}};
        for (int[] r : rows) {
            StoneGhosts x = one(r[0]);
            long common = BigInteger.valueOf(10 - r[2]).gcd(BigInteger.TEN).longValue();
            fraction("21: THICK " + r[0] + ", v " + r[1], x, r[1], 1, 0, (10 - r[2]) / common, 10 / common);
        }
        StoneGhosts y = one(0);
        DUE.range("21: v", 0, 150, StoneGhosts.GONE - 2, v -> y.crack(0, v, 1, 0, 0));
        DUE.range("21: m", 0, 9, StoneGhosts.GONE - 2, m -> y.crack(0, 1, m, 0, 0));
        DUE.range("21: what", 0, 1, StoneGhosts.GONE - 2, w -> y.crack(0, 1, 1, w, 0));
        DUE.range("21: part", 0, 1, StoneGhosts.GONE - 2, p -> y.crack(0, 1, 1, 0, p));
        for (int s = 1; s < 5; s++) y.stone(s, 0, 0, 0);
        DUE.range("21: STONE", 0, 4, StoneGhosts.GONE - 1, s -> y.crack(s, 1, 1, 0, 0));
    }

    /** "In m pulls (0 to 9): that it does not; in the mean on which pull it does (m and 1, if it does not)." */
    private static void crackInLowestTerms() {
        for (int t = 0; t <= 10; t++) {
            for (int m = 0; m <= 9; m++) {
                StoneGhosts x = one(3000);
                // In parts of 10^m: what is left whole behind each pull, and the pulls weighed by what cracks on them.
                BigInteger whole = BigInteger.TEN.pow(m), left = whole, mean = BigInteger.ZERO;
                for (int i = 1; i <= m; i++) {
                    BigInteger still = left.divide(BigInteger.TEN).multiply(BigInteger.valueOf(10 - t));
                    mean = mean.add(left.subtract(still).multiply(BigInteger.valueOf(i)));
                    left = still;
                }
                mean = mean.add(left.multiply(BigInteger.valueOf(m + 1)));
                BigInteger[] values = {left, mean};
                for (int what = 0; what < 2; what++) {
                    BigInteger common = values[what].gcd(whole);
                    fraction("21: " + t + " tenths, m " + m + ", what " + what, x, 30 + t, m, what,
                        values[what].divide(common).longValue(), whole.divide(common).longValue());
                }
            }
        }
        StoneGhosts y = one(3000);
        fraction("21: no pulls, it does not", y, 150, 0, 0, 1, 1);
        fraction("21: no pulls, 0 and 1", y, 150, 0, 1, 1, 1);
        fraction("21: surely not, 9 and 1", y, 0, 9, 1, 10, 1);
        fraction("21: surely, on the first", y, 150, 9, 1, 1, 1);
        fraction("21: 0 is told as 0 by 1", y, 150, 9, 0, 0, 1);
        fraction("21: 5 tenths, 9 pulls", y, 35, 9, 0, 1, 512);
        fraction("21: 5 tenths, 9 pulls, the mean", y, 35, 9, 1, 1023, 512);
    }

    /** HOLLOW, DAMP, FLAT, LEAST and what is FRESH are not spoken of. */
    private static void crackWhateverTheStone() {
        StoneGhosts x = new StoneGhosts();
        x.stone(0, 3000, 20, 20);
        Due.shop(x, "aAa9");
        x.set(0, 0);
        x.set(1, 9999);
        fraction("21: FRESH, hollow, thin", x, 31, 2, 0, 81, 100);
        DUE.is("30: nothing cracks in fact", x.told(1), 1);
    }

    /** "SIGHTS, 8 at most": how many; FULL. */
    private static void sightsCounted() {
        StoneGhosts x = new StoneGhosts();
        for (int i = 1; i <= 8; i++) {
            DUE.is("22: SIGHT " + i, x.seen(0, 0, false), i);
            DUE.is("30: SIGHTS", x.told(4), i);
        }
        DUE.is("22: the ninth", x.seen(0, 0, false), -4);
        DUE.is("22: the ninth, of another", x.seen(7, 999, true), -4);
        DUE.is("24: it is not among them", x.whose(-1), 160);
        DUE.is("30: eight", x.told(4), 8);
        DUE.is("23: eight go", x.forget(), 8);
        DUE.is("22: the first again", x.seen(7, 999, true), 1);
        // The eighth counts, too.
        StoneGhosts y = new StoneGhosts();
        for (int i = 1; i < 8; i++) y.seen(0, 0, false);
        DUE.is("24: seven", y.whose(-1), 160);
        DUE.is("22: the eighth", y.seen(0, 0, true), 8);
        DUE.is("24: nothing is both", y.whose(-1), 0);
        // Each of the eight counts, the one that showed and the one that did not.
        for (int at = 0; at < 8; at++) {
            StoneGhosts z = shallow(60);
            for (int i = 0; i < 8; i++) z.seen(i == at ? 7 : 0, 0, false);
            DUE.is("24: only the " + at + "-th tells: not more than 1", z.whose(0), 20);
            z.forget();
            for (int i = 0; i < 8; i++) z.seen(i == at ? 7 : 0, i == at ? 0 : 7, i == at);
            DUE.is("24: only the " + at + "-th tells: more than 1", z.whose(-1), 19);
        }
    }

    private static void sightsNumbers() {
        for (int p = 0; p < 8; p++) {
            int picture = p;
            DUE.range("22: n of " + p, 0, 999, -2, n -> new StoneGhosts().seen(picture, n, true));
        }
        DUE.range("22: PICTURE", 0, 7, -1, p -> new StoneGhosts().seen(p, 0, false));
    }

    /** "SIGHTS go: how many there were." */
    private static void forgotten() {
        StoneGhosts x = new StoneGhosts();
        for (int n = 0; n <= 8; n++) {
            for (int i = 0; i < n; i++) x.seen(i % 8, 0, true);
            DUE.is("23: forget " + n, x.forget(), n);
            DUE.is("23: none are left", x.told(4), 0);
            DUE.is("24: all fit", x.whose(-1), 160);
            DUE.is("23: and again", x.forget(), 0);
        }
    }

    /** "how many (i = -1), the i-th; NONE." */
    private static void whoseWithout() {
        for (int from = -160; from < 480; from += 320) {
            StoneGhosts x = new StoneGhosts();
            for (int i = from; i < from + 320; i++) {
                int want = i == -1 ? 160 : i < 0 || i >= 160 ? -6 : 100 * (i / 20) + i % 20 + 1;
                DUE.is("24: whose(" + i + ")", x.whose(i), want);
            }
        }
        StoneGhosts y = new StoneGhosts();
        for (int i : new int[] {Integer.MIN_VALUE, Integer.MIN_VALUE + 1, Integer.MAX_VALUE, Integer.MAX_VALUE - 1, 1000, 65536}) {
            DUE.is("24: whose(" + i + ")", y.whose(i), -6);
        }
    }

    /** Only A is deeper than 1, all others are 1 deep. */
    private static StoneGhosts shallow(int deep) {
        StoneGhosts x = new StoneGhosts();
        for (int p = 1; p < 8; p++) x.picture(p, 1, 1, 0);
        x.picture(0, deep, 1, 0);
        return x;
    }

    /** "ground for g minutes (1 to 20)": FAT is 3 less by each, 0 at least; "was more", not as much. */
    private static void whoseByMinutes() {
        for (int deep = 1; deep <= 60; deep++) {
            StoneGhosts x = shallow(deep);
            x.seen(7, 0, true);
            int fit = 0;
            for (int g = 1; g <= 20; g++) {
                if (Math.max(0, deep - 3 * g) > 1) fit++;
            }
            DUE.is("24: of DEEP " + deep + " more than 1", x.whose(-1), fit);
            DUE.is("24: the first", x.whose(0), fit > 0 ? 1 : -6);
            if (fit > 0) DUE.is("24: the last", x.whose(fit - 1), fit);
            DUE.is("24: behind it", x.whose(fit), -6);
            x.forget();
            x.seen(7, 0, false);
            DUE.is("24: of DEEP " + deep + " not more than 1", x.whose(-1), 160 - fit);
            DUE.is("24: the first", x.whose(0), fit + 1);
        }
        // Most deep: 60 less 60 is 0, 60 less 57 is 3.
        StoneGhosts y = shallow(60);
        y.seen(7, 10, true);
        DUE.is("24: more than 0: 19", y.whose(-1), 19);
        y.forget();
        y.seen(7, 10, false);
        DUE.is("24: not more than 0: 20 alone, and all others", y.whose(-1), 141);
        DUE.is("24: 20", y.whose(0), 20);
        DUE.is("24: then B, ground for 1", y.whose(1), 101);
    }

    /** "on its n-th pull (0 to 999; 0: ahead of all)": WEAR by each tenth, that of n itself, too; 0 at least. */
    private static void whoseAtThePull() {
        int[] pulls = {0, 1, 9, 10, 11, 19, 20, 29, 30, 99, 100, 148, 149, 150, 151, 500, 998, 999};
        for (int n : pulls) {
            // B of 30 wears 2; A of 60; all others of 1 never show.
            StoneGhosts x = shallow(60);
            x.picture(1, 30, 5, 0);
            x.seen(1, n, true);
            int own = Math.max(0, 30 - 2 * (n / 10)), fit = 0;
            for (int g = 1; g <= 20; g++) {
                if (60 - 3 * g > own) fit++;
            }
            DUE.is("24: at pull " + n, x.whose(-1), fit);
            DUE.is("25: at pull " + n, x.suspects(), 1);
            x.forget();
            x.seen(1, n, false);
            DUE.is("24: not at pull " + n, x.whose(-1), 160 - fit);
        }
        // Worn to 0: one hundredth that is left is more; nothing is not.
        for (int deep = 1; deep <= 60; deep++) {
            StoneGhosts x = shallow(deep);
            x.seen(7, 10, true);
            DUE.is("24: DEEP " + deep + ", more than 0", x.whose(-1), (deep - 1) / 3);
            x.forget();
            x.seen(7, 999, false);
            DUE.is("24: DEEP " + deep + ", not more than 0", x.whose(0), (deep - 1) / 3 + 1);
        }
        for (int fine = 1; fine <= 9; fine++) {
            StoneGhosts x = shallow(60);
            x.picture(1, 36, fine, 0);
            x.seen(1, 30, true);
            int own = 36 - 3 * (fine / 3 + 1), fit = 0;
            for (int g = 1; g <= 20; g++) {
                if (60 - 3 * g > own) fit++;
            }
            DUE.is("24: WEAR by FINE " + fine, x.whose(-1), fit);
        }
    }

    /** "(always not, if it is the same PICTURE)". */
    private static void whoseOfItself() {
        for (int p = 0; p < 8; p++) {
            for (int n : new int[] {0, 20, 999}) {
                StoneGhosts x = new StoneGhosts();
                x.seen(p, n, false);
                int twenty = 0;
                for (int i = 0; i < x.whose(-1); i++) {
                    if (x.whose(i) / 100 == p) twenty++;
                }
                DUE.is("24: not shown, all twenty of " + p + " fit", twenty, 20);
                x.forget();
                x.seen(p, n, true);
                DUE.is("25: shown, it is not " + p, x.suspects() >> p & 1, 0);
                DUE.is("25: shown, others may be, " + p, x.suspects(), n == 0 ? 0 : 255 - (1 << p));
            }
        }
        // 60, ground for 1, is 57: more than itself worn to 0, were it not the same.
        StoneGhosts y = shallow(60);
        y.seen(0, 999, true);
        DUE.is("24: of A itself", y.whose(-1), 0);
    }

    /** "by which all SIGHTS are so". */
    private static void whoseOfSeveral() {
        StoneGhosts x = shallow(60);
        x.picture(1, 30, 1, 0);
        x.picture(2, 20, 1, 0);
        x.picture(3, 10, 1, 0);
        x.seen(2, 0, true);
        DUE.is("24: A up to 13, B up to 3", x.whose(-1), 16);
        x.seen(1, 0, false);
        DUE.is("24: A from 10 on, B", x.whose(-1), 7);
        DUE.is("24: first", x.whose(0), 10);
        DUE.is("24: fourth", x.whose(3), 13);
        DUE.is("24: fifth", x.whose(4), 101);
        DUE.is("24: last", x.whose(6), 103);
        x.seen(1, 0, false);
        DUE.is("24: told twice", x.whose(-1), 7);
        x.seen(2, 10, false);
        DUE.is("24: not more than 19 at its tenth: none is 20", x.whose(-1), 0);
        DUE.is("24: none", x.whose(0), -6);
        DUE.is("25: nobody", x.suspects(), 0);
        x.forget();
        x.seen(3, 0, true);
        x.seen(2, 10, false);
        DUE.is("24: 11 to 19: A for 14 to 16, B for 4 to 6, C for 1 to 3", x.whose(-1), 9);
        DUE.is("25: A, B, C", x.suspects(), 7);
        // The order in which they were seen is no matter.
        StoneGhosts y = shallow(60);
        y.seen(2, 10, false);
        y.seen(3, 0, true);
        y.picture(1, 30, 1, 0);
        y.picture(2, 20, 1, 0);
        y.picture(3, 10, 1, 0);
        for (int i = -1; i < 10; i++) DUE.is("24: either order, " + i, y.whose(i), x.whose(i));
    }

    /** "(100 times the PICTURE and g; rising)". */
    private static void whoseRising() {
        StoneGhosts x = new StoneGhosts();
        for (int p = 0; p < 8; p++) x.picture(p, 7 * p + 5, 1, 0);
        x.seen(0, 0, true);
        int last = 0;
        int n = x.whose(-1);
        DUE.holds("24: some, not all", n > 20 && n < 160);
        for (int i = 0; i < n; i++) {
            int two = x.whose(i);
            DUE.holds("24: rising at " + i, two > last);
            DUE.holds("24: a PICTURE and g", two / 100 < 8 && two % 100 >= 1 && two % 100 <= 20);
            DUE.holds("24: it fits", Math.max(0, 7 * (two / 100) + 5 - 3 * (two % 100)) > 5);
            last = two;
        }
        DUE.is("24: no more", x.whose(n), -6);
    }

    private static void suspectsAsBits() {
        for (int p = 0; p < 8; p++) {
            StoneGhosts x = new StoneGhosts();
            for (int q = 0; q < 8; q++) x.picture(q, q == p ? 60 : 1, 1, 0);
            x.seen(p == 0 ? 1 : 0, 0, true);
            DUE.is("25: only " + p, x.suspects(), 1 << p);
            DUE.is("24: the first of " + p, x.whose(0), 100 * p + 1);
            DUE.is("24: the last of " + p, x.whose(18), 100 * p + 19);
            DUE.is("24: no more", x.whose(19), -6);
        }
    }

    /** "so that, whatever shows, fewest of these are left at the most: the least; how many." */
    private static void nextLeast() {
        StoneGhosts x = new StoneGhosts();
        DUE.range("26: n", 0, 999, -2, n -> x.next(n, 0));
        DUE.range("26: what", 0, 1, -2, w -> x.next(0, w));
        // All of 30: at n it is worn to 30 less 2 by each ten; 7 others show for so many minutes each.
        for (int n : new int[] {0, 9, 10, 19, 20, 29, 30, 60, 100, 140, 149, 150, 999}) {
            int own = Math.max(0, 30 - 2 * (n / 10)), minutes = 0;
            for (int g = 1; g <= 20; g++) {
                if (30 - 3 * g > own) minutes++;
            }
            DUE.is("26: alike, the least, n " + n, x.next(n, 0), 0);
            DUE.is("26: how many, n " + n, x.next(n, 1), Math.max(7 * minutes, 160 - 7 * minutes));
        }
        // The one that parts best, whichever it is.
        for (int p = 0; p < 8; p++) {
            StoneGhosts y = new StoneGhosts();
            y.picture(p, 1, 1, 0);
            DUE.is("26: " + p + " parts best", y.next(0, 0), p);
            DUE.is("26: 63 and 97", y.next(0, 1), 97);
            y.picture(7 - p, 1, 1, 0);
            DUE.is("26: of both the least", y.next(0, 0), Math.min(p, 7 - p));
            DUE.is("26: 54 and 106", y.next(0, 1), 106);
        }
        // Where more show than not, those that show are left at the most.
        StoneGhosts z = new StoneGhosts();
        for (int p = 1; p < 8; p++) z.picture(p, 60, 1, 0);
        z.picture(0, 1, 1, 0);
        DUE.is("26: A parts: 19 of each of 7 show", z.next(0, 1), 133);
        DUE.is("26: at the tenth likewise", z.next(10, 1), 133);
        DUE.is("26: B at its 300th is 30: 9 of each of 6", z.next(300, 1), 106);
        DUE.is("26: and B is the least", z.next(300, 0), 1);
    }

    /** "fewest of these": those that fit the SIGHTS; "NONE: nothing fits". */
    private static void nextBehindSights() {
        StoneGhosts x = shallow(60);
        x.seen(7, 0, true);
        DUE.is("26: 19 are left, of A alone", x.whose(-1), 19);
        DUE.is("26: all show, or none", x.next(0, 1), 19);
        DUE.is("26: the least", x.next(0, 0), 0);
        x.picture(4, 33, 1, 0);
        // E of 33 may have been first, too: for 10 minutes and less.
        DUE.is("26: A 19, E 10", x.whose(-1), 29);
        DUE.is("26: E next: A up to 8 shows", x.next(0, 0), 4);
        DUE.is("26: 8 and 21", x.next(0, 1), 21);
        DUE.is("26: E, pulled 100 times, is 23: A up to 12", x.next(100, 1), 17);
        x.seen(4, 0, true);
        x.seen(4, 50, false);
        DUE.is("26: nothing fits", x.whose(-1), 0);
        DUE.is("26: nothing fits", x.next(0, 0), -6);
        DUE.is("26: nothing fits", x.next(999, 1), -6);
        DUE.is("26: OUTSIDE all the same", x.next(1000, 1), -2);
        // One alone is left: one it stays.
        StoneGhosts y = shallow(60);
        y.picture(1, 27, 1, 0);
        y.picture(2, 24, 1, 0);
        y.seen(1, 0, false);
        y.seen(2, 0, true);
        y.picture(1, 27, 9, 0);
        DUE.is("24: A for 11: 27, not more than 27, more than 24", y.whose(0), 11);
        DUE.is("24: A alone", y.whose(-1), 1);
        for (int n : new int[] {0, 10, 999}) {
            DUE.is("26: one, n " + n, y.next(n, 1), 1);
            DUE.is("26: the least, n " + n, y.next(n, 0), 0);
        }
    }

    private static long drawn(int seed) {
        return (75L * seed + 74) % 65537;
    }

    private static StoneGhosts five(int thick, int hollow, int damp) {
        StoneGhosts x = new StoneGhosts();
        for (int s = 0; s < 5; s++) x.stone(s, thick, hollow, damp);
        return x;
    }

    /** A YEAR of one ACT on bare STONES: only "0 PICTURE ... is drawn" leaves something FRESH. */
    private static void yearOfOneAct() {
        for (int seed = 0; seed < 10000; seed += 97) {
            StoneGhosts x = five(9000, 0, 10);
            int kind = (int) (drawn(seed) / 5 % 4);
            DUE.is("27: year(" + seed + ", 1, 0): nothing is FRESH to pull", x.year(seed, 1, 0), 0);
            DUE.is("27: year(" + seed + ", 1, 1)", x.year(seed, 1, 1), 0);
            DUE.is("27: year(" + seed + ", 1, 2)", x.year(seed, 1, 2), kind == 0 ? 1 : 0);
            // The STONE is x left over by 5: without it nothing is.
            x.smash((int) (drawn(seed) % 5));
            DUE.is("27: year(" + seed + ", 1, 2) without that STONE", x.year(seed, 1, 2), 0);
        }
        DUE.is("27: the last seed", five(9000, 0, 10).year(9999, 1, 2), drawn(9999) / 5 % 4 == 0 ? 1 : 0);
    }

    /** The same where all have something FRESH: "1 it is ground", "3 there are so many pulls". */
    private static void yearOfOneActFromFresh() {
        for (int seed = 3; seed < 10000; seed += 89) {
            StoneGhosts x = five(9000, 0, 10);
            Due.shop(x, "aAbBcCdDeE");
            int kind = (int) (drawn(seed) / 5 % 4), amount = 1 + (int) (drawn(seed) / 20 % 9);
            DUE.is("27: year(" + seed + ", 1, 0) from FRESH", x.year(seed, 1, 0), kind == 3 ? amount : 0);
            DUE.is("27: year(" + seed + ", 1, 2) from FRESH", x.year(seed, 1, 2), kind == 1 ? 4 : 5);
            DUE.is("30: nothing is DONE in fact", x.told(10 * (1 + (int) (drawn(seed) % 5))), 9000);
        }
    }

    /** "those that are HAUNTED": neither FILLED nor GREY, by what PICTURE x by 20 left over by 8 is not. */
    private static void yearHaunted() {
        for (int seed = 5; seed < 10000; seed += 83) {
            int kind = (int) (drawn(seed) / 5 % 4), amount = 1 + (int) (drawn(seed) / 20 % 9);
            if (kind != 3) continue;
            int[][] damps = {{14, 9}, {5, 2}, {3, 0}, {20, 3}};
            for (int[] d : damps) {
                StoneGhosts x = five(9000, 0, d[0]);
                x.picture(1, 60, 1, 0);
                Due.shop(x, "aBbBcBdBeB");
                Due.shop(x, "ax1bx1cx1dx1ex1aAbAcAdAeA");
                int want = d[0] == 20 ? Math.max(0, amount - 6) : Math.min(amount, d[1]);
                DUE.is("27: DAMP " + d[0] + ", year(" + seed + ", 1, 1)", x.year(seed, 1, 1), want);
                DUE.is("27: DAMP " + d[0] + ", year(" + seed + ", 1, 0)", x.year(seed, 1, 0), amount);
            }
        }
    }

    /** "each if that can be": else it is left out, whole, and the next one comes. */
    private static void yearIfThatCanBe() {
        int[][] stones = {{9000, 0, 10}, {3000, 0, 10}, {2999, 0, 10}, {9000, 21, 10}, {9000, 20, 10}, {3010, 20, 3}, {9000, 99, 20}};
        for (int[] s : stones) {
            for (int seed = 0; seed < 10000; seed += 1111) {
                for (int m : new int[] {1, 2, 10, 40, 98, 99}) {
                    StoneGhosts x = five(s[0], s[1], s[2]);
                    Oracle o = new Oracle();
                    for (int i = 0; i < 5; i++) o.stone(i, s[0], s[1], s[2]);
                    for (int p = 0; p < 8; p++) {
                        x.picture(p, 1 + 8 * p, 9, 0);
                        o.picture(p, 1 + 8 * p, 9, 0);
                    }
                    for (int what = 0; what < 3; what++) {
                        DUE.is("27: THICK " + s[0] + ", HOLLOW " + s[1] + ", year(" + seed + ", " + m + ", " + what + ")",
                            x.year(seed, m, what), o.year(seed, m, what));
                    }
                }
            }
        }
        // Too thin to grind and to pull: what is drawn stays FRESH, and no pull is.
        DUE.is("27: too thin, pulls", five(2999, 0, 10).year(77, 99, 0), 0);
        DUE.is("27: too thin, FRESH", five(2999, 0, 10).year(77, 99, 2), 5);
        // Too thin to grind, and too hollow to draw.
        DUE.is("27: too hollow, FRESH", five(3000, 21, 10).year(77, 99, 2), 0);
    }

    /** "from all as it is": what is FRESH, and its pulls, count on; "Nothing is DONE in fact." */
    private static void yearFromAllAsItIs() {
        StoneGhosts x = five(9000, 0, 10);
        Due.shop(x, "aAbBa9");
        int[] first = new int[3];
        for (int what = 0; what < 3; what++) first[what] = x.year(4321, 50, what);
        for (int what = 0; what < 3; what++) DUE.is("27: the same again", x.year(4321, 50, what), first[what]);
        DUE.is("30: pulls of a", x.told(14), 9);
        DUE.is("30: FRESH on c", x.told(33), -6);
        DUE.is("30: THICK of c", x.told(30), 9000);
        DUE.is("30: DAMP of c", x.told(32), 10);
        // The PAD is no matter, nor is it changed.
        Due.write(x, "zz");
        for (int what = 0; what < 3; what++) DUE.is("27: with a FAULT on the PAD", x.year(4321, 50, what), first[what]);
        DUE.is("30: signs", x.told(0), 2);
        // And the SHOP is judged as ever, behind a YEAR.
        Due.rewrite(x, "a1");
        x.year(4321, 99, 0);
        DUE.is("10: pulls of the SHOP", x.judge(2), 1);
        DUE.is("13: the tenth pull", x.fat(0, 0), 28);
    }

    /** "a seed (0 to 9999) of m ACTS (1 to 99)". */
    private static void yearNumbers() {
        StoneGhosts x = five(9000, 0, 10);
        DUE.range("27: seed", 0, 9999, -2, s -> x.year(s, 99, 0));
        DUE.range("27: m", 1, 99, -2, m -> x.year(0, m, 0));
        DUE.range("27: what", 0, 2, -2, w -> x.year(0, 99, w));
        // One ACT more never takes pulls away.
        int last = 0;
        for (int m = 1; m <= 99; m++) {
            int pulls = x.year(100, m, 0);
            DUE.holds("27: pulls of " + m + " ACTS", pulls >= last && pulls <= last + 9);
            last = pulls;
        }
        DUE.holds("27: there are pulls in a year", last > 0);
    }
}
