/** The edges that the document names, sentence by sentence: ACTS and SHOPS, promises 10 to 15. */
public final class ShopsEdgesTest {
    private static final Due DUE = new Due();
    private static final int FILLED = 1, GREY = 2;

    public static void main(String[] args) {
        drawing();
        grindingThickAndFat();
        grindingHollow();
        nothingIsFreshBehindGrinding();
        dampOfPulls();
        tenthPulls();
        wearByFine();
        wearIsBehindAtZero();
        hauntedAndWorn();
        fromThePullThatWears();
        filledAndGreyAhead();
        water();
        pullsByDigit();
        glue();
        noSuchStone();
        bothAreOne();
        somethingIsFresh();
        nothingIsFresh();
        hollowAboveFlat();
        thickBelowLeast();
        leastReasonFirst();
        firstActThatCanNotBe();
        pullsOfAll();
        kindsOfAll();
        behindWhatIsGlued();
        fatBehind();
        skyFromOneOn();
        skyWhose();
        doneOrNot();
        DUE.end();
    }

    private static StoneGhosts one(int thick, int hollow, int damp) {
        StoneGhosts x = new StoneGhosts();
        x.stone(0, thick, hollow, damp);
        return x;
    }

    /** What the PAD comes to. */
    private static int behind(StoneGhosts x, String text, int stone, int what) {
        Due.rewrite(x, text);
        return x.behind(stone, what);
    }

    private static int fat(StoneGhosts x, String text, int stone, int picture) {
        Due.rewrite(x, text);
        return x.fat(stone, picture);
    }

    private static int why(StoneGhosts x, String text) {
        Due.rewrite(x, text);
        return x.judge(1);
    }

    private static void kinds(String name, StoneGhosts x, String text, int... want) {
        Due.rewrite(x, text);
        for (int kind = 0; kind < 5; kind++) {
            DUE.is(name + ", kinds(" + kind + ") of " + text, x.kinds(kind), want[kind]);
        }
    }

    /** "its FAT there is DEEP from then on, it is FRESH there, with no pulls yet." */
    private static void drawing() {
        StoneGhosts x = one(9000, 0, 10);
        x.stone(1, 9000, 0, 10);
        for (int p = 0; p < 8; p++) {
            x.picture(p, 7 * p + 1, 9, 0);
            String text = "a" + (char) ('A' + p);
            DUE.is("13: FAT of " + p, fat(x, text, 0, p), 7 * p + 1);
            DUE.is("12: FRESH, " + p, behind(x, text, 0, 3), p);
            DUE.is("12: no pulls, " + p, behind(x, text, 0, 4), 0);
            DUE.is("13: not on b", fat(x, text, 1, p), 0);
            DUE.is("12: not on b", behind(x, text, 1, 3), -6);
            DUE.is("12: nothing of THICK", behind(x, text, 0, 0), 9000);
            DUE.is("12: nothing of DAMP", behind(x, text, 0, 2), 10);
        }
        x.picture(0, 60, 5, 0);
        DUE.is("13: DEEP, not more by what is left", fat(x, "aAax1aA", 0, 0), 60);
        Due.shop(x, "aAax1");
        x.picture(0, 5, 5, 0);
        DUE.is("13: DEEP, though 57 are left", fat(x, "aA", 0, 0), 5);
        DUE.is("13: the 57 are not of a GHOST then", fat(x, "aAa1", 0, 0), 5);
        kinds("11: its own FAT from before does not haunt", x, "aAa1", 1, 0, 0, 0, 0);
        // Drawn anew, pulls are counted from 0 on.
        StoneGhosts y = one(9000, 0, 20);
        DUE.is("12: 9 pulls", behind(y, "aAa9", 0, 4), 9);
        DUE.is("12: none, drawn anew", behind(y, "aAa9ax1aA", 0, 4), 0);
        DUE.is("13: no wear by the 10th of both", fat(y, "aAa9ax1aAa9", 0, 0), 30);
        DUE.is("13: wear by the 10th of the new one", fat(y, "aAa9ax1aAa9a1", 0, 0), 28);
    }

    /** "To grind for a minute takes 3 of THICK and of all FAT there (0 at least)". */
    private static void grindingThickAndFat() {
        StoneGhosts x = one(9000, 50, 10);
        x.stone(1, 9000, 50, 10);
        x.set(0, 99);
        for (int m = 1; m <= 9; m++) {
            DUE.is("12: THICK by circles, " + m, behind(x, "ao" + m, 0, 0), 9000 - 3 * m);
            DUE.is("12: THICK by eights, " + m, behind(x, "ax" + m, 0, 0), 9000 - 3 * m);
            DUE.is("12: not of b", behind(x, "ax" + m, 1, 0), 9000);
            DUE.is("12: nothing of DAMP", behind(x, "ax" + m, 0, 2), 10);
        }
        for (int deep = 1; deep <= 60; deep++) {
            StoneGhosts y = one(9000, 0, 10);
            y.picture(1, deep, 1, 0);
            DUE.is("13: FAT " + deep + " by 1", fat(y, "aBax1", 0, 1), Math.max(0, deep - 3));
            DUE.is("13: FAT " + deep + " by 9", fat(y, "aBao9", 0, 1), Math.max(0, deep - 27));
        }
        allFatThere();
    }

    private static void allFatThere() {
        StoneGhosts x = one(9000, 0, 10);
        x.stone(1, 9000, 50, 10);
        x.set(0, 99);
        x.picture(1, 60, 1, 0);
        DUE.is("13: 60 by 19", fat(x, "aBax9ax9ax1", 0, 1), 3);
        DUE.is("13: 60 by 20", fat(x, "aBax9ax9ax2", 0, 1), 0);
        DUE.is("13: 60 by 21", fat(x, "aBax9ax9ax3", 0, 1), 0);
        String all = "aAax1aBax1aCax1aDax1aEax1aFax1aGax1aH";
        for (int p = 0; p < 8; p++) {
            int deep = p == 1 ? 60 : 30;
            DUE.is("13: of all FAT there, " + p, fat(x, all + "ao2", 0, p), deep - 3 * (7 - p) - 6);
        }
        DUE.is("13: not on b", fat(x, "bAao9", 1, 0), 30);
        DUE.is("12: FRESH on b stays", behind(x, "bAao9", 1, 3), 0);
        DUE.is("12: b's HOLLOW stays", behind(x, "bAao9", 1, 1), 50);
    }

    /** "In circles HOLLOW is 2 more (99 at most), in eights 1 less (0 at least)." */
    private static void grindingHollow() {
        for (int hollow = 0; hollow <= 99; hollow++) {
            StoneGhosts x = one(9000, hollow, 10);
            DUE.is("12: circles at " + hollow, behind(x, "ao1", 0, 1), Math.min(99, hollow + 2));
            DUE.is("12: eights at " + hollow, behind(x, "ax1", 0, 1), Math.max(0, hollow - 1));
        }
        DUE.is("12: 97 and 2", behind(one(9000, 97, 0), "ao1", 0, 1), 99);
        DUE.is("12: 98 and 2", behind(one(9000, 98, 0), "ao1", 0, 1), 99);
        DUE.is("12: 99 and 2", behind(one(9000, 99, 0), "ao1", 0, 1), 99);
        DUE.is("12: 81 and 18", behind(one(9000, 81, 0), "ao9", 0, 1), 99);
        DUE.is("12: 80 and 18", behind(one(9000, 80, 0), "ao9", 0, 1), 98);
        DUE.is("12: 99 at most, then 1 less", behind(one(9000, 98, 0), "ao9ax1", 0, 1), 98);
        DUE.is("12: 9 less 9", behind(one(9000, 9, 0), "ax9", 0, 1), 0);
        DUE.is("12: 8 less 9", behind(one(9000, 8, 0), "ax9", 0, 1), 0);
        DUE.is("12: 0 at least, then 2 more", behind(one(9000, 1, 0), "ax9ao1", 0, 1), 2);
    }

    /** "nothing is FRESH there then." */
    private static void nothingIsFreshBehindGrinding() {
        StoneGhosts x = one(9000, 0, 10);
        for (String grind : new String[] {"ao1", "ax1", "ax9"}) {
            DUE.is("12: FRESH behind " + grind, behind(x, "aAa3" + grind, 0, 3), -6);
            DUE.is("12: pulls behind " + grind, behind(x, "aAa3" + grind, 0, 4), 0);
            DUE.is("10: no pulls behind " + grind, why(x, "aA" + grind + "a1"), 4);
            DUE.is("10: drawn behind " + grind, why(x, "aA" + grind + "aA"), -6);
        }
        DUE.is("15: done", Due.shop(x, "aAa3ax1"), 3);
        DUE.is("16: nothing to be clean", x.clean(0), -3);
        DUE.is("30: FRESH", x.told(13), -6);
        DUE.is("30: pulls", x.told(14), 0);
    }

    /** "FILLED (1), if DAMP is 3 or less; GREY (2), if it is 15 or more; by each DAMP is 1 less (0 at least)". */
    private static void dampOfPulls() {
        for (int damp = 0; damp <= 20; damp++) {
            StoneGhosts x = one(9000, 0, damp);
            Due.write(x, "aAa1");
            int kind = damp <= 3 ? FILLED : damp >= 15 ? GREY : 0;
            for (int k = 0; k < 5; k++) DUE.is("11: DAMP " + damp + ", kinds(" + k + ")", x.kinds(k), k == kind ? 1 : 0);
            DUE.is("12: DAMP behind " + damp, x.behind(0, 2), Math.max(0, damp - 1));
        }
        // By each pull: 20 to 15 are GREY, 14 to 4 GOOD, 3 to 0 FILLED.
        kinds("11: from 20 on", one(9000, 0, 20), "aAa9a9a9", 11, 10, 6, 0, 0);
        DUE.is("12: 20 less 20", behind(one(9000, 0, 20), "aAa9a9a2", 0, 2), 0);
        DUE.is("12: 20 less 21", behind(one(9000, 0, 20), "aAa9a9a3", 0, 2), 0);
        DUE.is("12: 0, then wetted", behind(one(9000, 0, 1), "aAa9aw4", 0, 2), 4);
        kinds("11: 0, then wetted to 4", one(9000, 0, 1), "aAa9aw4a2", 1, 10, 0, 0, 0);
        StoneGhosts b = one(9000, 0, 10);
        b.stone(1, 9000, 0, 10);
        DUE.is("12: not of b", behind(b, "aAa9", 1, 2), 10);
    }

    /** "by each tenth pull of the FRESH one its FAT is WEAR less". */
    private static void tenthPulls() {
        StoneGhosts x = one(9000, 0, 20);
        Due.shop(x, "aA");
        for (int n = 1; n <= 45; n++) {
            DUE.is("15: pull " + n, Due.shop(x, "a1"), 1);
            DUE.is("30: FAT behind " + n, x.told(100), 30 - 2 * (n / 10));
            DUE.is("30: pulls behind " + n, x.told(14), n);
        }
        // Several at once, over a tenth; of the FRESH one alone, not of its GHOSTS, nor elsewhere.
        StoneGhosts y = one(9000, 0, 20);
        y.stone(1, 9000, 0, 20);
        DUE.is("13: 8 and 9", fat(y, "aAa8a9", 0, 0), 28);
        DUE.is("13: 9 and 9 and 9", fat(y, "aAa9a9a9", 0, 0), 26);
        DUE.is("13: a GHOST does not wear", fat(y, "aAax1aBa9a9a9", 0, 0), 27);
        DUE.is("13: the FRESH one does", fat(y, "aAax1aBa9a9a9", 0, 1), 26);
        DUE.is("13: pulls are counted by STONE", fat(y, "aAbAa9b1", 0, 0), 30);
        DUE.is("13: pulls are counted by STONE", fat(y, "aAbAa9b1", 1, 0), 30);
        DUE.is("13: pulls are counted by STONE", fat(y, "aAbAa9b1a1", 0, 0), 28);
        // All kinds wear: FILLED and GREY ones, too.
        DUE.is("13: ten FILLED ones", fat(one(9000, 0, 0), "aAa9a1", 0, 0), 28);
        DUE.is("13: ten GREY ones", fat(one(9000, 0, 20), "aAa5aw5a5", 0, 0), 28);
    }

    /** "WEAR ...: FINE by 3 (cut) and 1." */
    private static void wearByFine() {
        int[] wear = {1, 1, 2, 2, 2, 3, 3, 3, 4};
        for (int fine = 1; fine <= 9; fine++) {
            StoneGhosts x = one(9000, 0, 20);
            x.picture(6, 60, fine, 0);
            DUE.is("13: FINE " + fine + ", 9 pulls", fat(x, "aGa9", 0, 6), 60);
            DUE.is("13: FINE " + fine + ", 10 pulls", fat(x, "aGa9a1", 0, 6), 60 - wear[fine - 1]);
            DUE.is("13: FINE " + fine + ", 30 pulls", fat(x, "aGa9a9a9a3", 0, 6), 60 - 3 * wear[fine - 1]);
            DUE.is("16: FINE " + fine + ", clean", cleanOf(x), 10 * ((60 + wear[fine - 1] - 1) / wear[fine - 1]) - 1);
        }
    }

    private static int cleanOf(StoneGhosts x) {
        Due.shop(x, "aG");
        return x.clean(0);
    }

    /** "its FAT is WEAR less (0 at least)". */
    private static void wearIsBehindAtZero() {
        for (int deep = 1; deep <= 9; deep++) {
            StoneGhosts x = one(9000, 0, 20);
            x.picture(0, deep, 9, 0);
            DUE.is("13: " + deep + " less 4", fat(x, "aAa9a1", 0, 0), Math.max(0, deep - 4));
            DUE.is("13: " + deep + " less 8", fat(x, "aAa9a9a2", 0, 0), Math.max(0, deep - 8));
            DUE.is("13: " + deep + " less 12", fat(x, "aAa9a9a9a3", 0, 0), 0);
        }
    }

    /** "HAUNTED (3), if some GHOST's FAT there is more than that of the FRESH one; WORN (4), if that is 0; else GOOD". */
    private static void hauntedAndWorn() {
        for (int ghost = 0; ghost <= 5; ghost++) {
            for (int fresh = 1; fresh <= 5; fresh++) {
                StoneGhosts x = one(9000, 0, 10);
                x.picture(0, ghost + 3, 1, 0);
                x.picture(7, fresh, 1, 0);
                boolean haunted = ghost > fresh;
                kinds("11: ghost " + ghost + ", own " + fresh, x, "aAax1aHa1", haunted ? 0 : 1, 0, 0, haunted ? 1 : 0, 0);
            }
        }
        // GHOSTS on another STONE do not matter; nor does FAT of the FRESH one from before.
        StoneGhosts y = one(9000, 0, 10);
        y.stone(1, 9000, 0, 10);
        y.picture(0, 60, 1, 0);
        kinds("11: a GHOST of b", y, "bAbx1aBa1", 1, 0, 0, 0, 0);
        kinds("11: FRESH on b, on a, too", y, "bAaBa1", 1, 0, 0, 0, 0);
        kinds("11: any of several", y, "aCax9aDax1aAax9aHa1", 0, 0, 0, 1, 0);
    }

    /** "Behind that, ...": FAT as it is behind the wear of that very pull. */
    private static void fromThePullThatWears() {
        StoneGhosts x = one(9000, 0, 14);
        x.picture(0, 5, 1, 0);
        x.picture(1, 2, 1, 0);
        // A is ground to 2; B of 2 is 1 by its tenth pull, 0 by its twentieth.
        kinds("11: nine", x, "aAax1aBa9", 9, 0, 0, 0, 0);
        kinds("11: the tenth is HAUNTED", x, "aAax1aBa9a1", 9, 0, 0, 1, 0);
        kinds("11: and those behind it", x, "aAax1aBa9aw9a9", 9, 0, 0, 9, 0);
        kinds("11: HAUNTED ahead of WORN", x, "aAax1aBa9aw9a9aw9a5", 9, 0, 0, 14, 0);
        // Without GHOSTS it is WORN from the twentieth on.
        kinds("11: nineteen", x, "aBa9aw9a9aw9a1", 19, 0, 0, 0, 0);
        kinds("11: the twentieth is WORN", x, "aBa9aw9a9aw9a2", 19, 0, 0, 0, 1);
        kinds("11: and those behind it", x, "aBa9aw9a9aw9a9", 19, 0, 0, 0, 8);
        // A GHOST of 0 is not more than 0.
        x.picture(0, 3, 1, 0);
        kinds("11: a GHOST of 0", x, "aAax1aBa9aw9a9aw9a2", 19, 0, 0, 0, 1);
    }

    /** "a pull that is neither is HAUNTED": not one that is FILLED or GREY; nor is it WORN. */
    private static void filledAndGreyAhead() {
        StoneGhosts x = one(9000, 0, 4);
        x.picture(0, 60, 1, 0);
        x.picture(1, 1, 1, 0);
        kinds("11: FILLED, not HAUNTED", x, "aAax1aBa2", 0, 1, 0, 1, 0);
        kinds("11: FILLED, not WORN", x, "aBa9a1", 1, 9, 0, 0, 0);
        StoneGhosts y = one(9000, 0, 15);
        y.picture(0, 60, 1, 0);
        y.picture(1, 1, 1, 0);
        kinds("11: GREY, not HAUNTED", y, "aAax1aBa2", 0, 0, 1, 1, 0);
        kinds("11: GREY, not WORN", y, "aBa9aw9a2", 8, 0, 2, 0, 1);
    }

    /** "DAMP is so much more, 20 at most". */
    private static void water() {
        for (int w = 1; w <= 9; w++) {
            StoneGhosts x = new StoneGhosts();
            for (int damp = 0; damp <= 20; damp++) {
                x.stone(0, 0, 99, damp);
                DUE.is("12: " + damp + " and w" + w, behind(x, "aw" + w, 0, 2), Math.min(20, damp + w));
            }
        }
        StoneGhosts y = one(0, 99, 18);
        y.stone(1, 0, 99, 0);
        DUE.is("12: not of b", behind(y, "aw9aw9", 1, 2), 0);
        DUE.is("12: nothing of HOLLOW", behind(y, "aw9", 0, 1), 99);
    }

    /** "a digit 1 to 9 (so many pulls)". */
    private static void pullsByDigit() {
        for (int n = 1; n <= 9; n++) {
            StoneGhosts x = one(9000, 0, 14);
            DUE.is("12: pulls by " + n, behind(x, "aAa" + n, 0, 4), n);
            DUE.is("10: pulls by " + n, x.judge(2), n);
            DUE.is("11: GOOD ones by " + n, x.kinds(0), n);
            DUE.is("12: DAMP by " + n, x.behind(0, 2), 14 - n);
        }
    }

    /** "that one is glued below: THICK is both together, 9999 at most; it is no more". */
    private static void glue() {
        int[][] both = {{0, 0, 0}, {1, 2, 3}, {5000, 4998, 9998}, {5000, 4999, 9999}, {5000, 5000, 9999},
            {9999, 0, 9999}, {0, 9999, 9999}, {9999, 9999, 9999}};
        for (int[] b : both) {
            StoneGhosts x = one(b[0], 7, 5);
            x.stone(4, b[1], 99, 20);
            DUE.is("12: " + b[0] + " and " + b[1], behind(x, "a+e", 0, 0), b[2]);
            DUE.is("12: the lower one is no more", x.behind(4, 0), -1);
            DUE.is("12: HOLLOW of the upper one", x.behind(0, 1), 7);
            DUE.is("12: DAMP of the upper one", x.behind(0, 2), 5);
            DUE.is("30: not in fact yet", x.told(1), 17);
            DUE.is("15: done", x.done(), 1);
            DUE.is("30: in fact", x.told(1), 1);
            DUE.is("30: THICK", x.told(10), b[2]);
        }
        // What is FRESH, its pulls and all FAT stay above; what was on the lower one goes.
        StoneGhosts x = one(4000, 0, 10);
        x.stone(1, 4000, 0, 10);
        String text = "aAax1aBa4bCbx1bDb7";
        DUE.is("12: FRESH", behind(x, text + "a+b", 0, 3), 1);
        DUE.is("12: pulls", x.behind(0, 4), 4);
        DUE.is("13: a GHOST", x.fat(0, 0), 27);
        DUE.is("13: FAT of the FRESH one", x.fat(0, 1), 30);
        DUE.is("13: not the lower one's GHOST", x.fat(0, 2), 0);
        DUE.is("13: nor its FRESH one", x.fat(0, 3), 0);
        DUE.is("10: it can be pulled", why(x, text + "a+ba1"), -6);
        // THICK of both counts for the ACTS that follow.
        StoneGhosts y = one(1500, 0, 10);
        y.stone(1, 1500, 0, 10);
        DUE.is("10: too thin", why(y, "aAa1"), 6);
        DUE.is("10: thick enough, glued", why(y, "aAa+ba1"), -6);
        DUE.is("10: nothing to be ground off", why(y, "aAa+ba1ax1"), 6);
        // Chains: e below d below c below b below a.
        StoneGhosts z = new StoneGhosts();
        for (int s = 0; s < 5; s++) z.stone(s, 1000 + s, s, s);
        DUE.is("12: all five", behind(z, "d+ec+db+ca+b", 0, 0), 5010);
        for (int s = 1; s < 5; s++) DUE.is("12: glued, " + s, z.behind(s, 0), -1);
        DUE.is("15: done", z.done(), 4);
        DUE.is("30: a alone", z.told(1), 1);
    }

    private static final String[] ACTS = {"A", "H", "o1", "x1", "w1", "1"};

    /** "1 there is no such STONE (glue: one of both)". */
    private static void noSuchStone() {
        StoneGhosts x = one(4000, 0, 10);
        x.stone(1, 4000, 0, 10);
        for (char s = 'c'; s <= 'e'; s++) {
            for (String act : ACTS) DUE.is("10: 1 of " + s + act, why(x, s + act), 1);
            DUE.is("10: 1, the upper one", why(x, s + "+a"), 1);
            DUE.is("10: 1, the lower one", why(x, "a+" + s), 1);
            DUE.is("10: 1, ahead of 2", why(x, s + "+" + s), 1);
        }
        StoneGhosts y = one(4000, 0, 10);
        y.stone(1, 4000, 0, 10);
        for (String act : ACTS) {
            DUE.is("10: glued ahead of b" + act, why(y, "a+bb" + act), 1);
            DUE.is("10: which one", y.judge(0), 1);
        }
        DUE.is("10: glued twice", why(y, "a+ba+b"), 1);
        DUE.is("10: glued below itself, then", why(y, "a+bb+b"), 1);
        DUE.is("10: the other way round, then", why(y, "a+bb+a"), 1);
        y.smash(0);
        DUE.is("10: smashed", why(y, "aw1"), 1);
    }

    /** "2 both are one". */
    private static void bothAreOne() {
        StoneGhosts x = new StoneGhosts();
        for (int s = 0; s < 5; s++) x.stone(s, 0, 99, 0);
        for (char s = 'a'; s <= 'e'; s++) {
            for (char t = 'a'; t <= 'e'; t++) {
                DUE.is("10: " + s + "+" + t, why(x, s + "+" + t), s == t ? 2 : -6);
            }
        }
    }

    /** "3 something is FRESH there (to draw)": also the same PICTURE; not to do anything else. */
    private static void somethingIsFresh() {
        StoneGhosts x = one(4000, 0, 10);
        x.stone(1, 4000, 0, 10);
        for (char p = 'A'; p <= 'H'; p++) {
            DUE.is("10: 3, " + p, why(x, "aDa" + p), 3);
            DUE.is("10: on b it can be, " + p, why(x, "aDb" + p), -6);
        }
        for (String act : new String[] {"o1", "x9", "w9", "9", "+b"}) {
            DUE.is("10: FRESH does not matter to " + act, why(x, "aDa" + act), -6);
        }
        DUE.is("10: nor on the lower one", why(x, "aDb+a"), -6);
        DUE.is("10: 3 behind pulls", why(x, "aDa9a9aE"), 3);
        DUE.is("15: FRESH from an earlier SHOP", Due.shop(x, "aD"), 1);
        DUE.is("10: 3", why(x, "aE"), 3);
    }

    /** "4 nothing is (pulls)". */
    private static void nothingIsFresh() {
        StoneGhosts x = one(4000, 0, 10);
        x.stone(1, 4000, 0, 10);
        for (int n = 1; n <= 9; n++) DUE.is("10: 4, " + n, why(x, "a" + n), 4);
        DUE.is("10: FRESH on b only", why(x, "bAa1"), 4);
        DUE.is("10: behind grinding", why(x, "aAax1a1"), 4);
        DUE.is("10: FRESH on what is glued below", why(x, "bAa+ba1"), 4);
    }

    /** "5 HOLLOW is above FLAT (to draw, pulls)": not where it is FLAT. */
    private static void hollowAboveFlat() {
        for (int flat = 0; flat < 99; flat += 14) {
            StoneGhosts x = one(4000, flat, 10);
            x.stone(1, 4000, flat + 1, 10);
            x.stone(2, 4000, flat, 10);
            x.set(0, flat);
            DUE.is("10: FLAT " + flat, why(x, "aAa1"), -6);
            DUE.is("10: above, to draw", why(x, "bA"), 5);
            DUE.is("10: flat by an eight", why(x, "bx1bAb1"), -6);
            DUE.is("10: hollow by a circle", why(x, "ao1aA"), 5);
            for (String act : new String[] {"o9", "x9", "w9", "+a"}) {
                DUE.is("10: HOLLOW does not matter to " + act, why(x, "b" + act), -6);
            }
            DUE.is("10: nor of the lower one", why(x, "cAc+bc1"), -6);
            // Pulls of one that was drawn while FLAT was more.
            x.set(0, flat + 1);
            Due.shop(x, "bAb1");
            x.set(0, flat);
            DUE.is("10: above, to pull", why(x, "b1"), 5);
        }
        StoneGhosts y = one(4000, 99, 10);
        y.set(0, 99);
        DUE.is("10: FLAT 99, HOLLOW 99", why(y, "aAa1"), -6);
        y.set(0, 98);
        DUE.is("10: FLAT 98, HOLLOW 99", why(y, "aA"), 5);
    }

    /** "6 THICK would be below LEAST then (to grind), is so (pulls)": not where it is LEAST. */
    private static void thickBelowLeast() {
        for (int m = 1; m <= 9; m++) {
            StoneGhosts x = one(3000 + 3 * m, 0, 10);
            x.stone(1, 3000 + 3 * m - 1, 0, 10);
            DUE.is("10: LEAST then, x" + m, why(x, "ax" + m), -6);
            DUE.is("12: THICK then", x.behind(0, 0), 3000);
            DUE.is("10: LEAST then, o" + m, why(x, "ao" + m), -6);
            DUE.is("10: below then, x" + m, why(x, "bx" + m), 6);
            DUE.is("10: below then, o" + m, why(x, "bo" + m), 6);
            DUE.is("10: no minute more", why(x, "ax" + m + "ax1"), 6);
        }
        StoneGhosts y = one(3000, 0, 10);
        y.stone(1, 2999, 0, 10);
        DUE.is("10: LEAST, to pull", why(y, "aAa9"), -6);
        DUE.is("10: below, to pull", why(y, "bAb1"), 6);
        DUE.is("10: below, to draw", why(y, "bA"), -6);
        DUE.is("10: below, to wet", why(y, "bw9"), -6);
        DUE.is("10: below, to glue", why(y, "b+a"), -6);
        DUE.is("10: below, to be glued", why(y, "a+b"), -6);
        y.set(1, 0);
        y.stone(2, 0, 0, 10);
        y.stone(3, 2, 0, 10);
        y.stone(4, 27, 0, 10);
        DUE.is("10: LEAST 0, THICK 0, to pull", why(y, "cAc1"), -6);
        DUE.is("10: LEAST 0, THICK 0, to grind", why(y, "cx1"), 6);
        DUE.is("10: LEAST 0, THICK 2, to grind", why(y, "dx1"), 6);
        DUE.is("10: LEAST 0, THICK 27, to grind", why(y, "ex9"), -6);
        DUE.is("12: THICK 0 then", y.behind(4, 0), 0);
        y.set(1, 9999);
        y.stone(0, 9999, 0, 10);
        DUE.is("10: LEAST 9999, to pull", why(y, "aAa1"), -6);
        DUE.is("10: LEAST 9999, to grind", why(y, "ax1"), 6);
    }

    /** "for the least of these reasons". */
    private static void leastReasonFirst() {
        StoneGhosts x = one(3000, 20, 10);
        x.stone(1, 3000, 20, 10);
        Due.shop(x, "aA");
        x.set(0, 19);
        x.set(1, 3001);
        DUE.is("10: 3 ahead of 5", why(x, "aB"), 3);
        DUE.is("10: 4 ahead of 5 and 6", why(x, "b1"), 4);
        DUE.is("10: 5 ahead of 6", why(x, "a1"), 5);
        DUE.is("10: 5 alone, to draw, though too thin", why(x, "bB"), 5);
        DUE.is("10: 6 alone, to grind, though too hollow", why(x, "ax1"), 6);
        x.set(0, 20);
        DUE.is("10: 4 ahead of 6", why(x, "b1"), 4);
        DUE.is("10: 6 alone", why(x, "a1"), 6);
        x.set(1, 3000);
        x.set(0, 19);
        DUE.is("10: 5 alone", why(x, "a1"), 5);
        DUE.is("10: 4 ahead of 5", why(x, "b1"), 4);
    }

    /** "the first ACT (from 0 on) that can not be, why". */
    private static void firstActThatCanNotBe() {
        for (int ahead = 0; ahead < 20; ahead++) {
            StoneGhosts x = one(4000, 0, 10);
            Due.write(x, "aw1".repeat(ahead) + "e1");
            DUE.is("10: behind " + ahead + " of three signs", x.judge(0), ahead);
            DUE.is("10: why", x.judge(1), 1);
        }
        StoneGhosts y = one(4000, 0, 10);
        DUE.is("10: the last of thirty", why(y, "aA" + "a1".repeat(28) + "aB"), 3);
        DUE.is("10: the last of thirty", y.judge(0), 29);
        DUE.is("10: all thirty can be", why(y, "aA" + "a1".repeat(29)), -6);
        DUE.is("10: all thirty can be", y.judge(0), -6);
        DUE.is("10: the first of several", why(y, "aAaBa+ae1"), 3);
        DUE.is("10: the first of several", y.judge(0), 1);
        DUE.is("10: what it does is not done", why(y, "aAaBax1aB"), 3);
        DUE.is("10: none, and so no reason", why(y, ""), -6);
    }

    /** "how many pulls": of all STONES, of all kinds, in this SHOP alone. */
    private static void pullsOfAll() {
        StoneGhosts x = one(4000, 0, 20);
        x.stone(4, 4000, 0, 0);
        Due.rewrite(x, "");
        DUE.is("10: none", x.judge(2), 0);
        Due.rewrite(x, "aAeB");
        DUE.is("10: none", x.judge(2), 0);
        Due.rewrite(x, "aAeBa9e9a1");
        DUE.is("10: of both", x.judge(2), 19);
        DUE.is("15: done", x.done(), 5);
        DUE.is("10: none then", x.judge(2), 0);
        Due.rewrite(x, "a1");
        DUE.is("10: of this SHOP", x.judge(2), 1);
        StoneGhosts y = one(4000, 0, 20);
        Due.write(y, "aA" + "a9".repeat(29));
        DUE.is("10: the most that there can be", y.judge(2), 261);
        DUE.is("12: pulls of it", y.behind(0, 4), 261);
        DUE.is("13: its FAT is 0", y.fat(0, 0), 0);
    }

    /** "pulls of a kind (0 to 4)". */
    private static void kindsOfAll() {
        StoneGhosts x = one(4000, 0, 16);
        x.stone(1, 4000, 0, 5);
        x.picture(0, 60, 1, 0);
        x.picture(1, 1, 9, 0);
        // a: 16, 15 GREY, 14 to 8 GOOD, by its tenth pull WORN; b: 5, 4 HAUNTED, then FILLED.
        kinds("11: all five", x, "bAbx1aBa9a2bBb9", 7, 7, 2, 2, 2);
        Due.rewrite(x, "");
        DUE.range("11: kind", 0, 4, -2, x::kinds);
        kinds("11: none", x, "aA", 0, 0, 0, 0, 0);
    }

    /** "pulls (4; 0, if nothing is)", "UNKNOWN (behind that): it is glued then." */
    private static void behindWhatIsGlued() {
        StoneGhosts x = one(4000, 3, 10);
        x.stone(1, 5000, 4, 11);
        x.stone(2, 1, 5, 12);
        int[] want = {4000, 3, 10, -6, 0};
        for (int what = 0; what < 5; what++) DUE.is("12: as it is, " + what, x.behind(0, what), want[what]);
        Due.rewrite(x, "bw1c+b");
        int[] glued = {5001, 5, 12, -6, 0};
        for (int what = 0; what < 5; what++) {
            DUE.is("12: a stays, " + what, x.behind(0, what), want[what]);
            DUE.is("12: b is glued, " + what, x.behind(1, what), -1);
            DUE.is("12: c is both, " + what, x.behind(2, what), glued[what]);
            DUE.is("12: d there is not, " + what, x.behind(3, what), -1);
        }
        DUE.range("12: what", 0, 4, -2, w -> x.behind(0, w));
        DUE.range("12: STONE", 0, 2, -1, s -> s == 1 ? 0 : x.behind(s, 0));
    }

    /** "FAT behind, of a PICTURE on a STONE." */
    private static void fatBehind() {
        StoneGhosts x = one(4000, 3, 10);
        x.stone(1, 5000, 4, 11);
        DUE.is("15: done", Due.shop(x, "aCax1aFa2"), 4);
        for (int p = 0; p < 8; p++) DUE.is("13: as it is, " + p, x.fat(0, p), p == 2 ? 27 : p == 5 ? 30 : 0);
        Due.write(x, "ax2");
        for (int p = 0; p < 8; p++) DUE.is("13: then, " + p, x.fat(0, p), p == 2 ? 21 : p == 5 ? 24 : 0);
        DUE.range("13: PICTURE", 0, 7, -1, p -> x.fat(0, p));
        DUE.range("13: STONE", 0, 1, -1, s -> x.fat(s, 0));
    }

    /** "the first pull (from 1 on, of all in the SHOP) that is HAUNTED (NONE)". */
    private static void skyFromOneOn() {
        StoneGhosts x = one(9000, 0, 20);
        x.stone(1, 9000, 0, 0);
        x.picture(0, 60, 1, 0);
        Due.shop(x, "aAax1bAbx1aHbG");
        int[][] want = {{1, -6}, {6, -6}, {7, 7}, {9, 7}};
        for (int[] w : want) {
            Due.rewrite(x, "a" + w[0]);
            DUE.is("14: 20 to 15 are GREY, a" + w[0], x.sky(0), w[1]);
            DUE.is("14: whose, a" + w[0], x.sky(1), w[1] == -6 ? -6 : 0);
        }
        Due.rewrite(x, "b9b9");
        DUE.is("14: FILLED ones are not", x.sky(0), -6);
        Due.rewrite(x, "b2bw5b1");
        DUE.is("14: the third of b", x.sky(0), 3);
        Due.rewrite(x, "b9a6b9a2");
        DUE.is("14: of all in the SHOP", x.sky(0), 25);
        Due.rewrite(x, "bw4b1a9");
        DUE.is("14: the very first", x.sky(0), 1);
        DUE.is("15: done", Due.shop(x, "bw4b1b1"), 3);
        Due.rewrite(x, "bw6b1");
        DUE.is("14: from 1 on in each SHOP", x.sky(0), 1);
        DUE.is("14: from 1 on in each SHOP", x.sky(1), 0);
        Due.rewrite(x, "");
        DUE.is("14: no pulls, none", x.sky(0), -6);
        DUE.is("14: no pulls, nobody", x.sky(1), -6);
        DUE.range("14: what", 0, 1, -2, x::sky);
    }

    /** "whose GHOST it is (the greatest FAT there, of several the least PICTURE)". */
    private static void skyWhose() {
        for (int p = 0; p < 7; p++) {
            for (int q = p + 1; q < 8; q++) {
                StoneGhosts x = one(9000, 0, 10);
                int own = p != 0 ? 0 : q != 7 ? 7 : 3;
                x.picture(own, 1, 1, 0);
                String ghosts = "a" + (char) ('A' + q) + "ax1a" + (char) ('A' + p) + "ax1a" + (char) ('A' + own) + "a1";
                x.picture(q, 40, 1, 0);
                x.picture(p, 36, 1, 0);
                Due.rewrite(x, ghosts);
                DUE.is("14: the greatest, " + ghosts, x.sky(1), q);
                x.picture(p, 37, 1, 0);
                DUE.is("14: of both the least, " + ghosts, x.sky(1), p);
                x.picture(p, 38, 1, 0);
                DUE.is("14: the greatest, " + ghosts, x.sky(1), p);
            }
        }
        // On each STONE.
        for (char stone = 'a'; stone <= 'e'; stone++) {
            StoneGhosts x = new StoneGhosts();
            for (int s = 0; s < 5; s++) x.stone(s, 9000, 0, 10);
            x.picture(0, 1, 1, 0);
            Due.write(x, "aGax1aAa1".replace('a', stone));
            DUE.is("14: on " + stone, x.sky(0), 1);
            DUE.is("14: on " + stone, x.sky(1), 6);
        }
        // On that STONE, and as it was at that pull.
        StoneGhosts y = one(9000, 0, 10);
        y.stone(1, 9000, 0, 10);
        y.picture(0, 60, 1, 0);
        y.picture(7, 1, 1, 0);
        Due.write(y, "bBbx1aCax9aHbHa1b1");
        DUE.is("14: C alone is on a", y.sky(1), 2);
        Due.rewrite(y, "aCax1aHa1ax1aAax1aHa1");
        DUE.is("14: C then, though A is more later", y.sky(1), 2);
        DUE.is("14: the first", y.sky(0), 1);
        Due.rewrite(y, "aAax1aHax1aBa1");
        DUE.is("14: not the FRESH one's own", y.sky(1), 0);
    }

    /** "The SHOP is DONE (the PAD is empty then): ACTS." */
    private static void doneOrNot() {
        StoneGhosts x = one(4000, 0, 10);
        DUE.is("15: an empty PAD", x.done(), 0);
        DUE.is("15: nothing changes", x.told(12), 10);
        DUE.is("15: twenty ACTS", Due.shop(x, "aw1".repeat(20)), 20);
        DUE.is("30: DAMP", x.told(12), 20);
        DUE.is("15: the PAD is empty", x.told(0), 0);
        DUE.is("15: and so nothing more", x.done(), 0);
        DUE.is("8: no signs go", x.wipe(), 0);
        DUE.is("15: thirty ACTS", Due.shop(x, "aA" + "a1".repeat(29)), 30);
        DUE.is("30: pulls", x.told(14), 29);
        DUE.is("15: STATE", Due.shop(x, "a9ax1e1"), -3);
        DUE.is("30: STATE, pulls stay", x.told(14), 29);
        DUE.is("30: STATE, THICK stays", x.told(10), 4000);
        DUE.is("30: STATE, signs stay", x.told(0), 7);
        DUE.is("15: NO", Due.shop(x, "a9ax1a"), -5);
        DUE.is("30: NO, pulls stay", x.told(14), 29);
        DUE.is("30: NO, signs stay", x.told(0), 6);
        DUE.is("7: the sign that is missing", x.say('1'), 7);
        DUE.is("10: can not be: ground, nothing is FRESH", x.judge(1), 4);
        x.wipe();
        DUE.is("15: more of it", Due.shop(x, "a1"), 1);
        DUE.is("30: the thirtieth wears", x.told(100), 24);
    }
}
