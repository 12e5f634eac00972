/** The edges that the document names, sentence by sentence: promises 16 to 20. */
public final class PullsEdgesTest {
    private static final Due DUE = new Due();

    public static void main(String[] args) {
        cleanAheadOfTheFirst();
        cleanIsAsThePullsAre();
        cleanWhateverTheStone();
        grindFewest();
        grindNever();
        grindThick();
        grindDoesNotMind();
        livesLeft();
        ordersEachOnItsOwn();
        ordersAsThingsAre();
        ordersLast();
        ordersFirstRow();
        coloursOfKey();
        coloursFirstOrder();
        DUE.end();
    }

    private static StoneGhosts one(int thick, int hollow, int damp) {
        StoneGhosts x = new StoneGhosts();
        x.stone(0, thick, hollow, damp);
        return x;
    }

    /** "how many pulls more ... ahead of the first at which some GHOST's FAT is more, or its own is 0". */
    private static void cleanAheadOfTheFirst() {
        for (int deep = 1; deep <= 60; deep++) {
            StoneGhosts x = one(9000, 0, 0);
            x.picture(0, deep, 1, 0);
            x.picture(1, deep, 9, 0);
            x.stone(1, 9000, 0, 0);
            Due.shop(x, "aAbB");
            DUE.is("16: own is 0, DEEP " + deep + ", WEAR 1", x.clean(0), 10 * deep - 1);
            DUE.is("16: own is 0, DEEP " + deep + ", WEAR 4", x.clean(1), 10 * ((deep + 3) / 4) - 1);
        }
        for (int ghost = 0; ghost <= 8; ghost++) {
            StoneGhosts x = one(9000, 0, 0);
            x.picture(0, ghost + 3, 1, 0);
            x.picture(1, 6, 1, 0);
            Due.shop(x, "aAax1aB");
            // 6 wears to 1 less than the GHOST, or to 0.
            int wears = ghost > 6 ? 0 : ghost == 0 ? 6 : 7 - ghost;
            DUE.is("16: a GHOST of " + ghost + " ahead of 6", x.clean(0), Math.max(0, 10 * wears - 1));
        }
        // FAT that is 0 already; a GHOST that is more already.
        StoneGhosts y = one(9000, 0, 0);
        y.picture(0, 1, 1, 0);
        Due.shop(y, "aAa9a1");
        DUE.is("16: 0 already", y.clean(0), 0);
        Due.shop(y, "a9a9");
        DUE.is("16: 0 for long", y.clean(0), 0);
        Due.shop(y, "ax1aBax1aA");
        DUE.is("16: 27 ahead of 1", y.clean(0), 0);
    }

    /** From each pull on it is one less, till it is 0; and so many pulls are neither HAUNTED nor WORN. */
    private static void cleanIsAsThePullsAre() {
        StoneGhosts x = one(9000, 0, 10);
        x.picture(0, 30, 1, 0);
        x.picture(1, 28, 5, 0);
        // A is ground to 27; B of 28 is 26 by its tenth pull.
        Due.shop(x, "aAax1aB");
        for (int n = 0; n < 12; n++) {
            DUE.is("16: behind " + n, x.clean(0), Math.max(0, 9 - n));
            Due.rewrite(x, "aw1a1");
            DUE.is("11: the next one is HAUNTED, behind " + n, x.kinds(3), n < 9 ? 0 : 1);
            DUE.is("15: pulled", x.done(), 2);
        }
        StoneGhosts y = one(9000, 0, 10);
        y.picture(0, 3, 5, 0);
        Due.shop(y, "aA");
        for (int n = 0; n < 22; n++) {
            DUE.is("16: of 3, WEAR 2, behind " + n, y.clean(0), Math.max(0, 19 - n));
            Due.rewrite(y, "aw1a1");
            DUE.is("11: the next one is WORN, behind " + n, y.kinds(4), n < 19 ? 0 : 1);
            DUE.is("15: pulled", y.done(), 2);
        }
    }

    /** "(DAMP is no matter.)"; nor are HOLLOW, THICK; "STATE: nothing is FRESH". */
    private static void cleanWhateverTheStone() {
        for (int damp = 0; damp <= 20; damp++) {
            StoneGhosts x = one(9000, 0, damp);
            Due.shop(x, "aA");
            DUE.is("16: DAMP " + damp, x.clean(0), 149);
        }
        StoneGhosts x = one(3000, 20, 0);
        DUE.is("16: nothing is FRESH", x.clean(0), -3);
        Due.shop(x, "aA");
        x.set(0, 0);
        x.set(1, 9999);
        DUE.is("16: too hollow and too thin to pull", x.clean(0), 149);
        for (int fine = 1; fine <= 9; fine++) {
            x.picture(0, 1, fine, 0);
            int wear = fine / 3 + 1;
            DUE.is("16: FAT as it is, WEAR as it is by FINE " + fine, x.clean(0), 10 * ((30 + wear - 1) / wear) - 1);
        }
        StoneGhosts y = new StoneGhosts();
        for (int s = 0; s < 5; s++) y.stone(s, 4000, 0, 0);
        Due.shop(y, "aAbAcAdAeA");
        DUE.range("16: STONE", 0, 4, -1, y::clean);
    }

    /** A STONE with a GHOST of 60 minutes' worth, for a PICTURE of 30 that wears 2. */
    private static StoneGhosts haunted(int thick) {
        StoneGhosts x = one(thick, 0, 0);
        x.picture(7, 60, 1, 0);
        Due.shop(x, "aH");
        return x;
    }

    /** "the fewest minutes to grind a STONE so that a PICTURE, drawn on it then, lasts m pulls (0 to 999)". */
    private static void grindFewest() {
        StoneGhosts x = haunted(9000);
        DUE.is("17: 0 pulls always last", x.grind(0, 0, 0), 0);
        for (int m = 1; m <= 149; m++) {
            // Ahead of its m-th pull it is 30 less 2 by each ten; the GHOST may be as much.
            int own = 30 - 2 * (m / 10);
            DUE.is("17: " + m + " pulls", x.grind(0, 0, m), (60 - own + 2) / 3);
        }
        DUE.is("17: 150 pulls", x.grind(0, 0, 150), -6);
        DUE.range("17: m", 0, 999, -2, m -> x.grind(0, 7, m));
        // The GHOST's last minute: 1, 2, 3 of it are gone by one.
        for (int deep = 1; deep <= 4; deep++) {
            StoneGhosts y = one(9000, 0, 0);
            y.picture(1, deep, 1, 0);
            y.picture(0, 1, 1, 0);
            Due.shop(y, "aB");
            DUE.is("17: a GHOST of " + deep + " ahead of 1", y.grind(0, 0, 9), deep == 1 ? 0 : 1);
            DUE.is("17: never ten", y.grind(0, 0, 10), -6);
        }
        // What is there of itself is no GHOST; the most of several counts.
        DUE.is("17: H itself", x.grind(0, 7, 599), 0);
        DUE.is("17: H itself, never", x.grind(0, 7, 600), -6);
        StoneGhosts z = one(9000, 0, 0);
        z.picture(1, 20, 1, 0);
        z.picture(2, 40, 1, 0);
        z.picture(3, 10, 1, 0);
        Due.shop(z, "aBax1aCax1aDax1");
        DUE.is("17: 34 is the most, ahead of 10", z.grind(0, 3, 9), 8);
        DUE.is("17: 11 is the most but for C itself", z.grind(0, 2, 9), 0);
    }

    /** "NONE: it never does". */
    private static void grindNever() {
        for (int deep = 1; deep <= 60; deep += 7) {
            for (int fine = 1; fine <= 9; fine += 2) {
                StoneGhosts x = one(9999, 0, 0);
                x.picture(0, deep, fine, 0);
                int wear = fine / 3 + 1, most = 10 * ((deep + wear - 1) / wear) - 1;
                DUE.is("17: the most", x.grind(0, 0, most), 0);
                DUE.is("17: one more", x.grind(0, 0, most + 1), -6);
                DUE.is("17: 999", x.grind(0, 0, 999), -6);
            }
        }
    }

    /** "or THICK would be below LEAST then (also by none)". */
    private static void grindThick() {
        for (int minutes = 0; minutes <= 20; minutes++) {
            // So many minutes are needed: 60 less 3 by each, ahead of what is as much.
            StoneGhosts x = haunted(3000 + 3 * minutes);
            x.picture(0, Math.max(1, 60 - 3 * minutes), 1, 0);
            int m = minutes == 20 ? 1 : 9;
            DUE.is("17: " + minutes + " minutes, LEAST then", x.grind(0, 0, m), minutes);
            x.set(1, 3001);
            DUE.is("17: " + minutes + " minutes, below LEAST then", x.grind(0, 0, m), -6);
        }
        StoneGhosts y = one(0, 0, 0);
        y.set(1, 0);
        DUE.is("17: THICK 0, LEAST 0", y.grind(0, 0, 9), 0);
        y.set(1, 1);
        DUE.is("17: THICK 0, LEAST 1", y.grind(0, 0, 9), -6);
        DUE.is("17: below, even for no pull", y.grind(0, 0, 0), -6);
        StoneGhosts z = haunted(5);
        z.set(1, 0);
        DUE.is("17: 5 of THICK: one minute at most", z.grind(0, 0, 1), -6);
        z.picture(0, 57, 1, 0);
        DUE.is("17: 5 of THICK: one minute", z.grind(0, 0, 1), 1);
    }

    /** "(HOLLOW, what is FRESH do not matter.)"; nor does DAMP. */
    private static void grindDoesNotMind() {
        for (int hollow = 0; hollow <= 99; hollow += 33) {
            for (int damp = 0; damp <= 20; damp += 10) {
                StoneGhosts x = one(4000, hollow, damp);
                x.set(0, 99);
                Due.shop(x, "aA");
                DUE.is("17: FRESH A, for A", x.grind(0, 0, 149), 0);
                DUE.is("17: FRESH A, for B", x.grind(0, 1, 10), 1);
                x.set(0, 0);
                DUE.is("17: too hollow, for A", x.grind(0, 0, 149), 0);
                DUE.is("17: too hollow, for B", x.grind(0, 1, 10), 1);
                Due.shop(x, "ax1");
                DUE.is("17: A is a GHOST of 27, for B", x.grind(0, 1, 19), 0);
                DUE.is("17: A is a GHOST of 27, for B", x.grind(0, 1, 20), 1);
            }
        }
        // The FRESH one's pulls so far are not those of one that is drawn then.
        StoneGhosts y = one(4000, 0, 20);
        Due.shop(y, "aAa9a9a9");
        DUE.is("17: drawn anew", y.grind(0, 0, 149), 0);
        DUE.is("17: A, worn to 26, ahead of B", y.grind(0, 1, 29), 0);
        DUE.is("17: A, worn to 26, ahead of B", y.grind(0, 1, 30), 1);
    }

    /** "how often a STONE can be ground for m minutes (1 to 99), one time behind another." */
    private static void livesLeft() {
        StoneGhosts x = one(9999, 0, 0);
        x.set(1, 0);
        DUE.is("18: the most", x.lives(0, 1), 3333);
        DUE.is("18: by 99", x.lives(0, 99), 33);
        DUE.range("18: m", 1, 99, -2, m -> x.lives(0, m));
        for (int m = 1; m <= 99; m += 7) {
            StoneGhosts y = one(3000 + 6 * m, 99, 0);
            DUE.is("18: twice, m " + m, y.lives(0, m), 2);
            y.set(1, 3001);
            DUE.is("18: not twice, m " + m, y.lives(0, m), 1);
            y.set(1, 3000 + 3 * m);
            DUE.is("18: once, m " + m, y.lives(0, m), 1);
            y.set(1, 3000 + 3 * m + 1);
            DUE.is("18: not once, m " + m, y.lives(0, m), 0);
            y.set(1, 3000 + 6 * m);
            DUE.is("18: LEAST, m " + m, y.lives(0, m), 0);
            y.set(1, 9999);
            DUE.is("18: far below, m " + m, y.lives(0, m), 0);
        }
        StoneGhosts z = one(0, 0, 0);
        DUE.is("18: nothing there", z.lives(0, 1), 0);
        z.set(1, 0);
        DUE.is("18: 0, LEAST 0", z.lives(0, 1), 0);
        z.stone(0, 2, 0, 0);
        DUE.is("18: 2, LEAST 0", z.lives(0, 1), 0);
        z.stone(0, 3, 0, 0);
        DUE.is("18: 3, LEAST 0", z.lives(0, 1), 1);
        // As often as it can be DONE.
        StoneGhosts w = one(3100, 0, 0);
        int times = 0;
        while (times < 50 && Due.shop(w, "ax8") == 1) times++;
        DUE.is("18: as often as it is DONE", times, 4);
        DUE.is("18: none more", w.lives(0, 8), 0);
        DUE.is("18: but of one minute", w.lives(0, 1), 1);
    }

    /** "PICTURES of a set, each on a STONE of its own, or on none": "Sets are bits." */
    private static void ordersEachOnItsOwn() {
        StoneGhosts x = one(4000, 0, 0);
        x.stone(3, 4000, 0, 0);
        int[] pay = {5, 100, 7, 30, 2, 30, 0, 999};
        for (int p = 0; p < 8; p++) x.picture(p, 30, 5, pay[p]);
        DUE.is("19: no PICTURE", x.orders(0, 9, -1), 0);
        for (int p = 0; p < 8; p++) {
            DUE.is("19: alone, PAY of " + p, x.orders(1 << p, 9, -1), pay[p]);
            DUE.is("19: alone, STONE of " + p, x.orders(1 << p, 9, p), 0);
        }
        DUE.is("19: two of all", x.orders(255, 9, -1), 1099);
        DUE.is("19: B", x.orders(255, 9, 1), 0);
        DUE.is("19: H", x.orders(255, 9, 7), 3);
        for (int p : new int[] {0, 2, 3, 4, 5, 6}) DUE.is("19: none for " + p, x.orders(255, 9, p), -6);
        DUE.is("19: without H", x.orders(127, 9, -1), 130);
        DUE.is("19: D and F pay alike: D", x.orders(127, 9, 3), 3);
        DUE.is("19: D and F pay alike: not F", x.orders(127, 9, 5), -6);
        DUE.is("19: without B and H", x.orders(125, 9, -1), 60);
        DUE.is("19: D", x.orders(125, 9, 3), 0);
        DUE.is("19: F", x.orders(125, 9, 5), 3);
        DUE.range("19: set", 0, 255, -2, s -> x.orders(s, 9, -1));
        DUE.range("19: m", 0, 999, -2, m -> x.orders(255, m, -1));
        // PAY of 5 times 999 is the most; a PICTURE without PAY has a STONE, if there is one.
        StoneGhosts y = new StoneGhosts();
        for (int s = 0; s < 5; s++) y.stone(s, 4000, 0, 0);
        for (int p = 0; p < 8; p++) y.picture(p, 30, 5, 999);
        DUE.is("19: the most", y.orders(255, 9, -1), 4995);
        for (int p = 0; p < 8; p++) y.picture(p, 30, 5, 0);
        DUE.is("19: no PAY", y.orders(255, 9, -1), 0);
        for (int p = 0; p < 8; p++) DUE.is("19: no PAY, STONE of " + p, y.orders(255, 9, p), p < 5 ? p : -6);
    }

    /** "(what is FRESH there is a GHOST then; not where HOLLOW is above FLAT, THICK below LEAST)". */
    private static void ordersAsThingsAre() {
        int[][] stones = {{3000, 20, 1}, {3000, 21, 0}, {2999, 20, 0}, {2999, 21, 0}, {9999, 0, 1}, {3000, 0, 1}, {9999, 20, 1},
            {9999, 99, 0}, {0, 0, 0}};
        for (int[] s : stones) {
            StoneGhosts x = one(s[0], s[1], 0);
            DUE.is("19: THICK " + s[0] + ", HOLLOW " + s[1], x.orders(1, 9, -1), 10 * s[2]);
            DUE.is("19: and the STONE", x.orders(1, 9, 0), s[2] == 1 ? 0 : -6);
            DUE.is("19: for no pull likewise", x.orders(1, 0, 0), s[2] == 1 ? 0 : -6);
        }
        // DAMP does not matter; what is FRESH does, as a GHOST, but for the same PICTURE.
        for (int damp = 0; damp <= 20; damp += 5) {
            DUE.is("19: DAMP " + damp, one(4000, 0, damp).orders(1, 149, -1), 10);
        }
        StoneGhosts y = one(4000, 0, 0);
        Due.shop(y, "aA");
        DUE.is("19: FRESH A of 30, B of 30 for 9", y.orders(2, 9, 1), 0);
        DUE.is("19: FRESH A of 30, B of 30 for 10", y.orders(2, 10, 1), -6);
        DUE.is("19: A itself for 149", y.orders(1, 149, 0), 0);
        Due.shop(y, "a9a1");
        DUE.is("19: A, worn to 28, B for 19", y.orders(2, 19, 1), 0);
        DUE.is("19: A, worn to 28, B for 20", y.orders(2, 20, 1), -6);
        DUE.is("19: A itself, drawn anew", y.orders(1, 149, 0), 0);
        DUE.is("19: A itself, never 150", y.orders(1, 150, 0), -6);
        Due.shop(y, "ax2");
        DUE.is("19: A, ground to 22, B for 49", y.orders(2, 49, 1), 0);
        DUE.is("19: A, ground to 22, B for 50", y.orders(2, 50, 1), -6);
    }

    /** "so that each lasts m pulls there". */
    private static void ordersLast() {
        StoneGhosts x = new StoneGhosts();
        for (int s = 0; s < 5; s++) x.stone(s, 4000, 0, 0);
        for (int p = 0; p < 8; p++) x.picture(p, p + 1, 1, 1 << p);
        for (int m = 0; m < 100; m++) {
            // PICTURE p is 0 at its pull 10 times (p and 1).
            int sum = 0, taken = 0;
            for (int p = 7; p >= 0 && taken < 5; p--) {
                if (10 * (p + 1) - 1 >= m) {
                    sum += 1 << p;
                    taken++;
                }
            }
            DUE.is("19: all that last " + m, x.orders(255, m, -1), sum);
        }
        DUE.is("19: 79, H alone", x.orders(255, 79, 7), 0);
        DUE.is("19: 79, not G", x.orders(255, 79, 6), -6);
        DUE.is("19: 80, none", x.orders(255, 80, 7), -6);
        DUE.is("19: 999, none", x.orders(255, 999, -1), 0);
    }

    /** "the first row of so much (the least PICTURE's STONE least, then the next one's ...; none, NONE, behind all)". */
    private static void ordersFirstRow() {
        StoneGhosts x = new StoneGhosts();
        for (int s = 0; s < 3; s++) x.stone(s, 4000, 0, 0);
        // A only on c; B on b and c; C anywhere: by GHOSTS of D.
        x.picture(3, 40, 5, 0);
        Due.shop(x, "aDbDax1bx4cDcx9");
        x.picture(0, 20, 5, 10);
        x.picture(1, 30, 5, 10);
        x.picture(2, 40, 5, 10);
        DUE.is("19: all three", x.orders(7, 9, -1), 30);
        DUE.is("19: A", x.orders(7, 9, 0), 2);
        DUE.is("19: B", x.orders(7, 9, 1), 1);
        DUE.is("19: C", x.orders(7, 9, 2), 0);
        DUE.is("19: A and C: C on the least", x.orders(5, 9, 2), 0);
        DUE.is("19: B and C: B on the least that it may", x.orders(6, 9, 1), 1);
        // The least PICTURE's STONE is least, though another row has less of the next one's.
        x.picture(0, 40, 5, 10);
        DUE.is("19: A on a", x.orders(3, 9, 0), 0);
        DUE.is("19: B on b", x.orders(3, 9, 1), 1);
        DUE.is("19: A and C: A on a", x.orders(5, 9, 0), 0);
        DUE.is("19: A and C: C on b", x.orders(5, 9, 2), 1);
        // None is behind all: the least PICTURE has a STONE rather than the next one of like PAY.
        x.smash(1);
        x.smash(2);
        DUE.is("19: A has it", x.orders(5, 9, 0), 0);
        DUE.is("19: C has none", x.orders(5, 9, 2), -6);
        x.picture(2, 40, 5, 11);
        DUE.is("19: A has none", x.orders(5, 9, 0), -6);
        DUE.is("19: C pays more", x.orders(5, 9, 2), 0);
        x.picture(2, 40, 5, 10);
        x.picture(0, 40, 5, 0);
        x.picture(2, 40, 5, 0);
        DUE.is("19: neither pays: A", x.orders(5, 9, 0), 0);
        DUE.is("19: neither pays: not C", x.orders(5, 9, 2), -6);
    }

    /** "Of COLOURS 0 to k less 1 (k 1 to 6), each once: the least missed together". */
    private static void coloursOfKey() {
        int[] sums = {0, 1, 3, 6, 10, 15};
        for (int k = 1; k <= 6; k++) {
            StoneGhosts x = new StoneGhosts();
            DUE.is("20: HAIRS 0, k " + k, x.colours(k, 0), sums[k - 1]);
            DUE.is("20: the first order, k " + k, x.colours(k, 1), 0);
            for (int c = 0; c < 6; c++) x.hairs(c, 9);
            DUE.is("20: HAIRS 9, k " + k, x.colours(k, 0), 9 * k - sums[k - 1]);
            for (int c = 0; c < 6; c++) x.hairs(c, -9);
            DUE.is("20: HAIRS -9, k " + k, x.colours(k, 0), 9 * k + sums[k - 1]);
            DUE.is("20: any order, the first, k " + k, x.colours(k, 1), 0);
            for (int c = 0; c < 6; c++) x.hairs(c, c < k ? k - 1 - c : 0);
            DUE.is("20: each as it comes, k " + k, x.colours(k, 0), 0);
            DUE.is("20: the last comes first, k " + k, x.colours(k, 1), k - 1);
        }
        StoneGhosts y = new StoneGhosts();
        DUE.range("20: k", 1, 6, -2, k -> y.colours(k, 0));
        DUE.range("20: what", 0, 1, -2, w -> y.colours(6, w));
        // COLOURS from k on do not matter.
        y.hairs(0, 3);
        y.hairs(5, -9);
        DUE.is("20: of one alone", y.colours(1, 0), 3);
        DUE.is("20: of five", y.colours(5, 0), 7);
        DUE.is("20: of six", y.colours(6, 0), 21);
        DUE.is("20: of six, any order with 0 as the fourth: the first", y.colours(6, 1), 1);
        // One alone misses by what 0 and its HAIRS differ.
        for (int v = -9; v <= 9; v++) {
            y.hairs(0, v);
            DUE.is("20: alone with " + v, y.colours(1, 0), Math.abs(v));
            DUE.is("20: alone it is first", y.colours(1, 1), 0);
        }
    }

    /** "the COLOUR that comes first in the first such order (by COLOURS)". */
    private static void coloursFirstOrder() {
        StoneGhosts x = new StoneGhosts();
        // 1 and 2 are to come first, both alike: 1 is the first of them.
        x.hairs(0, 2);
        DUE.is("20: 2, 0, 0: misses 1", x.colours(3, 0), 1);
        DUE.is("20: 1 is first", x.colours(3, 1), 1);
        x.hairs(1, 1);
        DUE.is("20: 2, 1, 0: none", x.colours(3, 0), 0);
        DUE.is("20: 2 is first", x.colours(3, 1), 2);
        x.hairs(0, 1);
        DUE.is("20: 1, 1, 0: misses 1", x.colours(3, 0), 1);
        DUE.is("20: 0 misses 1 first: 0, 2 would be 3", x.colours(3, 1), 2);
        x.hairs(2, 1);
        DUE.is("20: 1, 1, 1: misses 2", x.colours(3, 0), 2);
        DUE.is("20: all alike: 0", x.colours(3, 1), 0);
    }
}
