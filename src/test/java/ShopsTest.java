/** Promises 10 to 15: SHOPS judged, told behind, and done. */
public final class ShopsTest {
    private static final Due DUE = new Due();

    public static void main(String[] args) {
        reasons();
        judgeRefusals();
        kinds();
        behind();
        fat();
        sky();
        done();
        DUE.end();
    }

    /** a and b as told, c of 3002 thick, d too hollow; e there is not. */
    private static StoneGhosts shelf() {
        StoneGhosts x = new StoneGhosts();
        x.stone(0, 4000, 0, 10);
        x.stone(1, 3030, 20, 10);
        x.stone(2, 3002, 0, 10);
        x.stone(3, 2000, 21, 10);
        return x;
    }

    private static void judged(String text, int act, int why) {
        StoneGhosts x = shelf();
        Due.write(x, text);
        DUE.is("10: judge(0) of " + text, x.judge(0), act);
        DUE.is("10: judge(1) of " + text, x.judge(1), why);
        if (act != -6) {
            DUE.is("10: judge(2) of " + text, x.judge(2), -3);
            DUE.is("11: kinds(0) of " + text, x.kinds(0), -3);
            DUE.is("12: behind(0, 0) of " + text, x.behind(0, 0), -3);
            DUE.is("13: fat(0, 0) of " + text, x.fat(0, 0), -3);
            DUE.is("14: sky(0) of " + text, x.sky(0), -3);
            DUE.is("14: sky(1) of " + text, x.sky(1), -3);
            DUE.is("15: done() of " + text, x.done(), -3);
            DUE.is("15: nothing is done", x.told(0), text.length());
        }
    }

    private static void reasons() {
        judged("", -6, -6);
        judged("eA", 0, 1);
        judged("eo1", 0, 1);
        judged("ex1", 0, 1);
        judged("ew1", 0, 1);
        judged("e1", 0, 1);
        judged("e+a", 0, 1);
        judged("a+e", 0, 1);
        judged("e+e", 0, 1);
        judged("a+a", 0, 2);
        judged("a+ba+b", 1, 1);
        judged("a+bbw1", 1, 1);
        judged("aAaB", 1, 3);
        judged("aAaA", 1, 3);
        judged("aAao9aB", -6, -6);
        judged("a1", 0, 4);
        judged("aAax1a1", 2, 4);
        judged("dA", 0, 5);
        judged("d1", 0, 4);
        judged("dx1dA", 0, 6);
        judged("bA", -6, -6);
        judged("bo1", -6, -6);
        judged("bo1bA", 1, 5);
        judged("bAbo1b1", 2, 4);
        judged("bo9", -6, -6);
        judged("bx9bx1", -6, -6);
        judged("bx9bx2", 1, 6);
        judged("cx1", 0, 6);
        judged("co1", 0, 6);
        judged("cAc1", -6, -6);
        judged("aw1aw9dw9", -6, -6);
        judged("d+ad+b", -6, -6);
        // 3 and 5, 4 and 5, 5 and 6: the least is told.
        StoneGhosts x = shelf();
        Due.shop(x, "aAbB");
        x.set(0, 10);
        Due.write(x, "bC");
        DUE.is("10: 3 ahead of 5", x.judge(1), 3);
        x.wipe();
        x.set(1, 9000);
        Due.write(x, "b1");
        DUE.is("10: 5 ahead of 6", x.judge(1), 5);
        x.wipe();
        Due.write(x, "a1");
        DUE.is("10: 6 of pulls", x.judge(1), 6);
        x.wipe();
        Due.write(x, "dx1");
        DUE.is("10: 6 of grinding", x.judge(1), 6);
    }

    private static void judgeRefusals() {
        StoneGhosts x = shelf();
        DUE.is("10: no pulls", x.judge(2), 0);
        DUE.is("10: what -1", x.judge(-1), -2);
        DUE.is("10: what 3", x.judge(3), -2);
        Due.write(x, "aAa9a2bBb3");
        DUE.is("10: pulls", x.judge(2), 14);
        x.say('a');
        DUE.is("10: OUTSIDE ahead of NO", x.judge(3), -2);
        for (int what = 0; what < 3; what++) {
            DUE.is("10: NO", x.judge(what), -5);
        }
        DUE.is("11: NO", x.kinds(0), -5);
        DUE.is("11: OUTSIDE ahead of NO", x.kinds(5), -2);
        DUE.is("12: NO", x.behind(0, 0), -5);
        DUE.is("12: UNKNOWN ahead of OUTSIDE", x.behind(4, 5), -1);
        DUE.is("12: OUTSIDE ahead of NO", x.behind(0, 5), -2);
        DUE.is("13: NO", x.fat(0, 0), -5);
        DUE.is("13: UNKNOWN ahead of NO", x.fat(0, 8), -1);
        DUE.is("14: NO", x.sky(0), -5);
        DUE.is("14: OUTSIDE ahead of NO", x.sky(2), -2);
        DUE.is("15: NO", x.done(), -5);
        DUE.is("15: signs stay", x.told(0), 11);
        x.wipe();
        Due.write(x, "a1a");
        DUE.is("10: NO ahead of STATE", x.judge(2), -5);
    }

    private static void kindsAre(StoneGhosts x, String text, int... want) {
        x.wipe();
        Due.write(x, text);
        for (int kind = 0; kind < 5; kind++) {
            DUE.is("11: kinds(" + kind + ") of " + text, x.kinds(kind), want[kind]);
        }
    }

    private static void kinds() {
        StoneGhosts x = new StoneGhosts();
        DUE.is("11: none", x.kinds(0), 0);
        DUE.is("11: -1", x.kinds(-1), -2);
        DUE.is("11: 5", x.kinds(5), -2);
        x.stone(0, 9000, 0, 16);
        // 16 and 15 are GREY, 14 is not; 4 is not FILLED, 3 is.
        kindsAre(x, "aAa2", 0, 0, 2, 0, 0);
        kindsAre(x, "aAa3", 1, 0, 2, 0, 0);
        x.stone(0, 9000, 0, 5);
        kindsAre(x, "aAa2", 2, 0, 0, 0, 0);
        kindsAre(x, "aAa3", 2, 1, 0, 0, 0);
        kindsAre(x, "aAa9", 2, 7, 0, 0, 0);
        // WORN, at the tenth pull: 1 less 1.
        x.picture(0, 1, 1, 0);
        x.stone(0, 9000, 0, 14);
        kindsAre(x, "aAa9", 9, 0, 0, 0, 0);
        kindsAre(x, "aAa9a1", 9, 0, 0, 0, 1);
        // As much FAT does not haunt, more does: B of 4 is ground to 1.
        x.picture(1, 4, 1, 0);
        kindsAre(x, "aBax1aAa9", 9, 0, 0, 0, 0);
        kindsAre(x, "aBax1aAa9a2", 9, 0, 0, 2, 0);
        x.picture(1, 5, 1, 0);
        kindsAre(x, "aBax1aAa9", 0, 0, 0, 9, 0);
        // GREY and FILLED ones are not HAUNTED.
        x.stone(0, 9000, 0, 3);
        kindsAre(x, "aBax1aAa3", 0, 3, 0, 0, 0);
        x.stone(0, 9000, 0, 20);
        kindsAre(x, "aBax1aAa7", 0, 0, 6, 1, 0);
        // WEAR: FINE by 3, and 1; of several pulls, each tenth.
        int[] wear = {1, 1, 2, 2, 2, 3, 3, 3, 4};
        for (int fine = 1; fine <= 9; fine++) {
            x.picture(2, 60, fine, 0);
            x.wipe();
            Due.write(x, "aCa9a9a2");
            DUE.is("13: WEAR by FINE " + fine, x.fat(0, 2), 60 - 2 * wear[fine - 1]);
        }
    }

    private static void behindIs(StoneGhosts x, String text, int stone, int... want) {
        x.wipe();
        Due.write(x, text);
        for (int what = 0; what < 5; what++) {
            DUE.is("12: behind(" + stone + ", " + what + ") of " + text, x.behind(stone, what), want[what]);
        }
    }

    private static void behind() {
        StoneGhosts x = shelf();
        behindIs(x, "", 0, 4000, 0, 10, -6, 0);
        behindIs(x, "aB", 0, 4000, 0, 10, 1, 0);
        behindIs(x, "aBa4", 0, 4000, 0, 6, 1, 4);
        behindIs(x, "aBa9a9", 0, 4000, 0, 0, 1, 18);
        behindIs(x, "aBa4ao2", 0, 3994, 4, 6, -6, 0);
        behindIs(x, "ao9ax5aw9aw9", 0, 3958, 13, 20, -6, 0);
        behindIs(x, "ax1", 0, 3997, 0, 10, -6, 0);
        behindIs(x, "ax1aHa2a2", 0, 3997, 0, 6, 7, 4);
        behindIs(x, "aBa4a+b", 0, 7030, 0, 6, 1, 4);
        behindIs(x, "a+bc+da+c", 0, 9999, 0, 10, -6, 0);
        x.stone(4, 9999, 98, 0);
        behindIs(x, "eo1", 4, 9996, 99, 0, -6, 0);
        x.wipe();
        Due.write(x, "a+b");
        DUE.is("12: glued", x.behind(1, 0), -1);
        DUE.is("12: OUTSIDE ahead of glued", x.behind(1, 5), -2);
        DUE.is("13: glued", x.fat(1, 0), -1);
        DUE.is("12: what -1", x.behind(0, -1), -2);
        DUE.is("12: what 5", x.behind(0, 5), -2);
        DUE.is("12: stone 5", x.behind(5, 0), -1);
        DUE.is("12: stone -1", x.behind(-1, 0), -1);
        x.wipe();
        Due.write(x, "a+ba+b");
        DUE.is("12: STATE ahead of glued", x.behind(1, 0), -3);
        DUE.is("13: STATE ahead of glued", x.fat(1, 0), -3);
        x.wipe();
        Due.write(x, "a+bb");
        DUE.is("12: NO ahead of glued", x.behind(1, 0), -5);
    }

    private static void fat() {
        StoneGhosts x = shelf();
        Due.write(x, "aAax2aBax3");
        DUE.is("13: A ground twice", x.fat(0, 0), 15);
        DUE.is("13: B ground once", x.fat(0, 1), 21);
        DUE.is("13: C never drawn", x.fat(0, 2), 0);
        DUE.is("13: other stone", x.fat(1, 0), 0);
        DUE.is("13: picture 8", x.fat(0, 8), -1);
        DUE.is("13: picture -1", x.fat(0, -1), -1);
        DUE.is("13: no such stone", x.fat(4, 0), -1);
        DUE.is("13: stone 5", x.fat(5, 0), -1);
        Due.write(x, "ax9");
        DUE.is("13: 0 at least", x.fat(0, 0), 0);
        Due.write(x, "aA");
        DUE.is("13: drawn anew", x.fat(0, 0), 30);
        DUE.is("13: nothing is done", x.told(100), 0);
    }

    private static void sky() {
        StoneGhosts x = shelf();
        DUE.is("14: what 2", x.sky(2), -2);
        DUE.is("14: what -1", x.sky(-1), -2);
        DUE.is("14: none", x.sky(0), -6);
        DUE.is("14: nobody", x.sky(1), -6);
        x.picture(0, 5, 5, 0);
        // Two pulls on b ahead; then a's third is the first that is not GREY.
        x.stone(0, 4000, 0, 16);
        Due.write(x, "bBb2aHax1aFax1aGax2aAa5");
        DUE.is("14: the fifth of all", x.sky(0), 5);
        DUE.is("14: G of 24, ahead of F of 21 and H of 18", x.sky(1), 6);
        x.wipe();
        x.picture(5, 33, 5, 0);
        Due.write(x, "bBb2aFax1aGax2aAa5");
        DUE.is("14: F and G are alike", x.fat(0, 5), x.fat(0, 6));
        DUE.is("14: of both the least", x.sky(1), 5);
        x.wipe();
        Due.write(x, "aAa9");
        DUE.is("14: none is HAUNTED", x.sky(0), -6);
        DUE.is("14: by nobody", x.sky(1), -6);
    }

    private static void done() {
        StoneGhosts x = shelf();
        DUE.is("15: nothing to do", x.done(), 0);
        Due.write(x, "aBa4a+bcw2");
        DUE.is("15: acts", x.done(), 4);
        DUE.is("15: the PAD is empty", x.told(0), 0);
        DUE.is("15: it is so: THICK", x.told(10), 7030);
        DUE.is("15: it is so: DAMP", x.told(12), 6);
        DUE.is("15: it is so: FRESH", x.told(13), 1);
        DUE.is("15: it is so: pulls", x.told(14), 4);
        DUE.is("15: it is so: FAT", x.told(101), 30);
        DUE.is("15: it is so: b is no more", x.told(1), 13);
        DUE.is("15: c is wet", x.told(32), 12);
        Due.write(x, "a6");
        DUE.is("15: more pulls", x.done(), 1);
        DUE.is("15: the tenth of all wears", x.told(101), 28);
        Due.write(x, "ax1bA");
        DUE.is("15: STATE", x.done(), -3);
        DUE.is("15: nothing of it is done", x.told(10), 7030);
    }
}
