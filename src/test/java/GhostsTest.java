/** Promises 21 to 27: cracks, sights, whose, next, years. */
public final class GhostsTest {
    private static final Due DUE = new Due();

    public static void main(String[] args) {
        crack();
        crackRefused();
        seenAndForgotten();
        whose();
        next();
        year();
        yearRefused();
        DUE.end();
    }

    private static void fraction(StoneGhosts x, int v, int m, int what, long upper, long lower) {
        String call = "21: crack(0, " + v + ", " + m + ", " + what;
        DUE.is(call + ", 0)", x.crack(0, v, m, what, 0), upper);
        DUE.is(call + ", 1)", x.crack(0, v, m, what, 1), lower);
    }

    private static void crack() {
        StoneGhosts x = new StoneGhosts();
        x.stone(0, 3099, 0, 0);
        fraction(x, 30, 9, 0, 1, 1);
        fraction(x, 30, 9, 1, 10, 1);
        fraction(x, 0, 9, 1, 10, 1);
        fraction(x, 31, 0, 0, 1, 1);
        fraction(x, 31, 0, 1, 1, 1);
        fraction(x, 31, 1, 0, 9, 10);
        fraction(x, 31, 1, 1, 19, 10);
        fraction(x, 32, 2, 0, 16, 25);
        fraction(x, 32, 2, 1, 61, 25);
        fraction(x, 35, 3, 0, 1, 8);
        fraction(x, 35, 3, 1, 15, 8);
        fraction(x, 31, 9, 0, 387420489L, 1000000000L);
        fraction(x, 31, 9, 1, 6513215599L, 1000000000L);
        fraction(x, 40, 5, 0, 0, 1);
        fraction(x, 40, 5, 1, 1, 1);
        fraction(x, 150, 9, 0, 0, 1);
        fraction(x, 40, 0, 0, 1, 1);
    }

    private static void crackRefused() {
        StoneGhosts x = new StoneGhosts();
        long unknown = -1000000000000000001L;
        long outside = -1000000000000000002L;
        DUE.is("21: no such stone", x.crack(0, 0, 0, 0, 0), unknown);
        x.stone(0, 3099, 0, 0);
        DUE.is("21: stone 5", x.crack(5, 0, 0, 0, 0), unknown);
        DUE.is("21: UNKNOWN ahead of OUTSIDE", x.crack(1, -1, 0, 0, 0), unknown);
        int[][] bad = {{-1, 0, 0, 0}, {151, 0, 0, 0}, {0, -1, 0, 0}, {0, 10, 0, 0},
            {0, 0, -1, 0}, {0, 0, 2, 0}, {0, 0, 0, -1}, {0, 0, 0, 2}};
        for (int[] b : bad) {
            DUE.is("21: outside", x.crack(0, b[0], b[1], b[2], b[3]), outside);
        }
    }

    private static void seenAndForgotten() {
        StoneGhosts x = new StoneGhosts();
        DUE.is("23: none", x.forget(), 0);
        DUE.is("22: picture 8", x.seen(8, 0, true), -1);
        DUE.is("22: picture -1", x.seen(-1, 0, true), -1);
        DUE.is("22: UNKNOWN ahead of OUTSIDE", x.seen(8, 1000, true), -1);
        DUE.is("22: n -1", x.seen(0, -1, true), -2);
        DUE.is("22: n 1000", x.seen(0, 1000, true), -2);
        for (int i = 1; i <= 8; i++) {
            DUE.is("22: sight " + i, x.seen(i - 1, i == 8 ? 999 : 0, false), i);
        }
        DUE.is("22: full", x.seen(0, 0, false), -4);
        DUE.is("22: OUTSIDE ahead of FULL", x.seen(0, 1000, false), -2);
        DUE.is("22: told", x.told(4), 8);
        DUE.is("23: eight", x.forget(), 8);
        DUE.is("23: none", x.told(4), 0);
        DUE.is("23: all fit again", x.whose(-1), 160);
        // What showed once is not left behind where it does not show now.
        for (int i = 0; i < 8; i++) {
            x.seen(0, 0, true);
        }
        DUE.is("23: eight", x.forget(), 8);
        x.seen(0, 0, false);
        DUE.is("22: not shown", x.whose(-1), 160);
    }

    private static void whose() {
        StoneGhosts x = new StoneGhosts();
        DUE.is("24: all", x.whose(-1), 160);
        DUE.is("24: first", x.whose(0), 1);
        DUE.is("24: last", x.whose(159), 720);
        DUE.is("24: behind the last", x.whose(160), -6);
        DUE.is("24: -2", x.whose(-2), -6);
        DUE.is("24: far", x.whose(Integer.MAX_VALUE), -6);
        DUE.is("24: far below", x.whose(Integer.MIN_VALUE), -6);
        DUE.is("25: all", x.suspects(), 255);
        // A of 60 behind g minutes is more than B's 30, as long as g is 9 or less.
        x.picture(0, 60, 1, 0);
        x.seen(1, 0, true);
        DUE.is("24: nine", x.whose(-1), 9);
        DUE.is("24: first", x.whose(0), 1);
        DUE.is("24: last", x.whose(8), 9);
        DUE.is("24: no more", x.whose(9), -6);
        DUE.is("25: A alone", x.suspects(), 1);
        // C wears 2 by each tenth pull: 30 to the 9th, 28 from the 10th on, 18 at the 60th.
        x.forget();
        x.seen(2, 60, true);
        DUE.is("24: A 13, six of 3, not C itself", x.whose(-1), 13 + 6 * 3);
        DUE.is("25: all but C", x.suspects(), 251);
        x.seen(2, 59, false);
        DUE.is("24: 19 or 20: none is, 21 is more, 18 is not", x.whose(-1), 0);
        x.forget();
        x.seen(2, 9, false);
        x.seen(2, 10, true);
        DUE.is("24: 28 but not 30: A of 30", x.whose(0), 10);
        DUE.is("24: and no other", x.whose(-1), 1);
        // Never of itself; worn to 0 at the 150th pull.
        x.forget();
        x.seen(2, 999, true);
        DUE.is("24: whatever is left: A 19, six of 9", x.whose(-1), 19 + 6 * 9);
        x.forget();
        x.seen(2, 999, false);
        DUE.is("24: nothing is left: A 1, six of 11, C itself 20", x.whose(-1), 1 + 6 * 11 + 20);
        DUE.is("24: A behind 20", x.whose(0), 20);
        DUE.is("24: B behind 10", x.whose(1), 110);
        x.seen(2, 999, true);
        DUE.is("24: nothing is both", x.whose(-1), 0);
        DUE.is("24: none", x.whose(0), -6);
        DUE.is("25: nobody", x.suspects(), 0);
        // By the PICTURES as they are.
        x.forget();
        x.seen(1, 0, true);
        x.picture(0, 31, 1, 0);
        DUE.is("24: A is less deep now", x.whose(-1), 0);
        x.picture(1, 27, 1, 0);
        DUE.is("24: B, too: A 1, none of 30", x.whose(-1), 1);
    }

    private static void next() {
        StoneGhosts x = new StoneGhosts();
        DUE.is("26: n -1", x.next(-1, 0), -2);
        DUE.is("26: n 1000", x.next(1000, 0), -2);
        DUE.is("26: what -1", x.next(0, -1), -2);
        DUE.is("26: what 2", x.next(0, 2), -2);
        DUE.is("26: nothing ever shows, the least", x.next(0, 0), 0);
        DUE.is("26: all are left", x.next(0, 1), 160);
        // Behind 150 pulls all that is left shows: 9 of each other one.
        DUE.is("26: the least of like ones", x.next(150, 0), 0);
        DUE.is("26: 63 show, 97 do not", x.next(150, 1), 97);
        // D of 1 shows most: 9 of each of six, and A's 19.
        x.picture(0, 60, 1, 0);
        x.picture(3, 1, 1, 0);
        DUE.is("26: D parts best", x.next(0, 0), 3);
        DUE.is("26: 73 show, 87 do not", x.next(0, 1), 87);
        x.seen(3, 0, true);
        DUE.is("26: 73 are left; E next: A up to 9", x.next(0, 0), 1);
        DUE.is("26: 64", x.next(0, 1), 64);
        x.seen(3, 0, false);
        DUE.is("26: nothing fits", x.next(0, 0), -6);
        DUE.is("26: nothing fits", x.next(0, 1), -6);
        DUE.is("26: OUTSIDE ahead of NONE", x.next(0, 2), -2);
    }

    private static void year() {
        StoneGhosts x = new StoneGhosts();
        DUE.is("27: no stones", x.year(0, 99, 0), 0);
        for (int s = 0; s < 5; s++) {
            x.stone(s, 9000, 0, 10);
        }
        // 74: e, 74 by 5 is 14, left over 2: water. 5624: e, 1124 left over 0: PICTURE 281 left over 1.
        DUE.is("27: water alone", x.year(0, 1, 2), 0);
        DUE.is("27: B is drawn on e", x.year(0, 2, 2), 1);
        DUE.is("27: no pulls", x.year(0, 2, 0), 0);
        DUE.is("27: nothing is done in fact", x.told(53), -6);
        DUE.is("27: nothing is done in fact", x.told(52), 10);
        // The same, told by another count.
        for (int seed = 0; seed < 10000; seed += 271) {
            Oracle o = new Oracle();
            StoneGhosts y = new StoneGhosts();
            for (int s = 0; s < 5; s++) {
                y.stone(s, 3100 + s, s, 8);
                o.stone(s, 3100 + s, s, 8);
                y.picture(s, 5 + 11 * s, 9 - s, 0);
                o.picture(s, 5 + 11 * s, 9 - s, 0);
            }
            for (int what = 0; what < 3; what++) {
                DUE.is("27: year(" + seed + ", 99, " + what + ")", y.year(seed, 99, what), o.year(seed, 99, what));
            }
        }
    }

    private static void yearRefused() {
        StoneGhosts x = new StoneGhosts();
        DUE.is("27: seed -1", x.year(-1, 1, 0), -2);
        DUE.is("27: seed 10000", x.year(10000, 1, 0), -2);
        DUE.is("27: seed 9999", x.year(9999, 1, 0), 0);
        DUE.is("27: m 0", x.year(0, 0, 0), -2);
        DUE.is("27: m 100", x.year(0, 100, 0), -2);
        DUE.is("27: what -1", x.year(0, 1, -1), -2);
        DUE.is("27: what 3", x.year(0, 1, 3), -2);
    }
}
