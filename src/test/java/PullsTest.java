/** Promises 16 to 20: CLEAN, GRIND, LIVES, ORDERS, COLOURS. */
public final class PullsTest {
    private static final Due DUE = new Due();

    public static void main(String[] args) {
        clean();
        grind();
        lives();
        orders();
        ordersInRows();
        ordersRefused();
        colours();
        DUE.end();
    }

    private static void clean() {
        StoneGhosts x = new StoneGhosts();
        DUE.is("16: no such stone", x.clean(0), -1);
        DUE.is("16: stone 5", x.clean(5), -1);
        DUE.is("16: stone -1", x.clean(-1), -1);
        x.stone(0, 9000, 0, 0);
        DUE.is("16: nothing FRESH", x.clean(0), -3);
        x.picture(0, 1, 1, 0);
        Due.shop(x, "aA");
        DUE.is("16: nine good ones", x.clean(0), 9);
        Due.shop(x, "a4");
        DUE.is("16: five more", x.clean(0), 5);
        Due.shop(x, "a5");
        DUE.is("16: none more", x.clean(0), 0);
        Due.shop(x, "a1");
        DUE.is("16: it is 0", x.clean(0), 0);
        Due.shop(x, "a5");
        DUE.is("16: it stays 0", x.clean(0), 0);
        // B of 30 is ground to 27, ahead of C of 30, which wears 2: 28, 26.
        Due.shop(x, "ax9ax9aBax1aC");
        DUE.is("16: till the ghost is more", x.clean(0), 19);
        x.picture(2, 30, 9, 0);
        DUE.is("16: WEAR 4 by now", x.clean(0), 9);
        // The ghost is alike: not more.
        x.stone(0, 9000, 0, 0);
        x.picture(2, 27, 1, 0);
        Due.shop(x, "aBax1aC");
        DUE.is("16: alike till it wears", x.clean(0), 9);
        x.stone(0, 9000, 0, 0);
        x.picture(2, 26, 1, 0);
        Due.shop(x, "aBax1aC");
        DUE.is("16: the ghost is more at once", x.clean(0), 0);
        x.picture(3, 60, 1, 0);
        x.stone(1, 9000, 0, 0);
        Due.shop(x, "bD");
        DUE.is("16: the most", x.clean(1), 599);
    }

    private static void grind() {
        StoneGhosts x = new StoneGhosts();
        x.stone(0, 3300, 0, 0);
        DUE.is("17: no such stone", x.grind(1, 0, 0), -1);
        DUE.is("17: stone 5", x.grind(5, 0, 0), -1);
        DUE.is("17: picture 8", x.grind(0, 8, 0), -1);
        DUE.is("17: picture -1", x.grind(0, -1, 0), -1);
        DUE.is("17: UNKNOWN ahead of OUTSIDE", x.grind(0, 8, 1000), -1);
        DUE.is("17: m 1000", x.grind(0, 0, 1000), -2);
        DUE.is("17: m -1", x.grind(0, 0, -1), -2);
        // 30 wears 2: it is 0 at the 150th pull.
        DUE.is("17: 149", x.grind(0, 0, 149), 0);
        DUE.is("17: 150 never", x.grind(0, 0, 150), -6);
        DUE.is("17: 999 never", x.grind(0, 0, 999), -6);
        x.picture(1, 60, 1, 0);
        Due.shop(x, "aB");
        // The ghost of 60 must be 30 or less, for 9 pulls; for 149 it must be 2 or less.
        DUE.is("17: none for no pull", x.grind(0, 0, 0), 0);
        DUE.is("17: ten", x.grind(0, 0, 1), 10);
        DUE.is("17: ten", x.grind(0, 0, 9), 10);
        DUE.is("17: eleven: 27 is less than 28", x.grind(0, 0, 10), 11);
        DUE.is("17: twenty", x.grind(0, 0, 149), 20);
        DUE.is("17: its own is none", x.grind(0, 1, 599), 0);
        // HOLLOW, what is FRESH do not matter.
        x.set(0, 0);
        x.stone(1, 3300, 99, 0);
        DUE.is("17: HOLLOW", x.grind(1, 0, 1), 0);
        // THICK: 3300 less 60 is 3240.
        x.set(1, 3240);
        DUE.is("17: thick enough", x.grind(0, 0, 149), 20);
        x.set(1, 3241);
        DUE.is("17: too thin then", x.grind(0, 0, 149), -6);
        x.set(1, 3300);
        DUE.is("17: by none", x.grind(0, 0, 0), 0);
        x.set(1, 3301);
        DUE.is("17: too thin, also by none", x.grind(0, 0, 0), -6);
    }

    private static void lives() {
        StoneGhosts x = new StoneGhosts();
        DUE.is("18: no such stone", x.lives(0, 1), -1);
        x.stone(0, 3300, 0, 0);
        DUE.is("18: UNKNOWN ahead of OUTSIDE", x.lives(5, 0), -1);
        DUE.is("18: m 0", x.lives(0, 0), -2);
        DUE.is("18: m 100", x.lives(0, 100), -2);
        DUE.is("18: m 1", x.lives(0, 1), 100);
        DUE.is("18: m 3", x.lives(0, 3), 33);
        DUE.is("18: m 50", x.lives(0, 50), 2);
        DUE.is("18: m 51", x.lives(0, 51), 1);
        DUE.is("18: m 99", x.lives(0, 99), 1);
        x.set(1, 3004);
        DUE.is("18: 296 is not 297", x.lives(0, 99), 0);
        x.set(1, 3300);
        DUE.is("18: none", x.lives(0, 1), 0);
        x.set(1, 9999);
        DUE.is("18: below", x.lives(0, 1), 0);
    }

    private static void orders() {
        StoneGhosts x = new StoneGhosts();
        DUE.is("19: nothing to draw", x.orders(0, 0, -1), 0);
        DUE.is("19: nothing to draw on", x.orders(255, 0, -1), 0);
        DUE.is("19: on none", x.orders(255, 0, 7), -6);
        x.stone(1, 3000, 20, 0);
        x.picture(2, 30, 5, 999);
        DUE.is("19: as thick as LEAST, as hollow as FLAT", x.orders(4, 149, -1), 999);
        DUE.is("19: there", x.orders(4, 149, 2), 1);
        DUE.is("19: does not last", x.orders(4, 150, -1), 0);
        DUE.is("19: does not last", x.orders(4, 150, 2), -6);
        x.set(0, 19);
        DUE.is("19: too hollow", x.orders(4, 0, -1), 0);
        x.set(0, 20);
        x.set(1, 3001);
        DUE.is("19: too thin", x.orders(4, 0, -1), 0);
        x.set(1, 3000);
        DUE.is("19: one stone, the dearer", x.orders(5, 1, -1), 999);
        DUE.is("19: the cheaper on none", x.orders(5, 1, 0), -6);
        DUE.is("19: the dearer", x.orders(5, 1, 2), 1);
        DUE.is("19: only of the set", x.orders(3, 1, -1), 10);
        // What is FRESH is a GHOST then.
        x.picture(0, 31, 5, 0);
        Due.shop(x, "bA");
        DUE.is("19: haunted", x.orders(4, 1, -1), 0);
        DUE.is("19: for no pull it lasts", x.orders(4, 0, -1), 999);
        DUE.is("19: the same one anew", x.orders(1, 149, 0), 1);
    }

    private static void ordersInRows() {
        StoneGhosts x = new StoneGhosts();
        for (int s = 0; s < 5; s++) {
            x.stone(s, 4000, 0, 0);
        }
        for (int p = 0; p < 8; p++) {
            DUE.is("19: first five of like pay, " + p, x.orders(255, 1, p), p < 5 ? p : -6);
        }
        DUE.is("19: five of ten", x.orders(255, 1, -1), 50);
        x.picture(7, 30, 5, 11);
        DUE.is("19: the last pays more", x.orders(255, 1, -1), 51);
        DUE.is("19: and takes the last stone", x.orders(255, 1, 7), 4);
        DUE.is("19: the fifth has none", x.orders(255, 1, 4), -6);
        // Without pay it is drawn still, where that costs nothing.
        x.picture(0, 30, 5, 0);
        DUE.is("19: no pay, on none", x.orders(255, 1, 0), -6);
        DUE.is("19: no pay, but room", x.orders(129, 1, 0), 0);
        DUE.is("19: behind it", x.orders(129, 1, 7), 1);
        // A picture that only one stone takes keeps it.
        Due.shop(x, "bBcBdBeB");
        x.picture(2, 29, 5, 7);
        x.picture(3, 30, 5, 7);
        DUE.is("19: C only on a", x.orders(12, 1, 2), 0);
        DUE.is("19: D beside", x.orders(12, 1, 3), 1);
        DUE.is("19: E goes by", x.orders(4 + 8 + 16, 1, 4), 2);
    }

    private static void ordersRefused() {
        StoneGhosts x = new StoneGhosts();
        DUE.is("19: bit is not in the set", x.orders(2, 0, 0), -1);
        DUE.is("19: picture 8", x.orders(255, 0, 8), -1);
        DUE.is("19: picture -2", x.orders(255, 0, -2), -1);
        DUE.is("19: UNKNOWN ahead of OUTSIDE", x.orders(2, 1000, 0), -1);
        DUE.is("19: set 256", x.orders(256, 0, -1), -2);
        DUE.is("19: set -1", x.orders(-1, 0, -1), -2);
        DUE.is("19: set -1, bit in it", x.orders(-1, 0, 3), -2);
        DUE.is("19: m -1", x.orders(1, -1, -1), -2);
        DUE.is("19: m 1000", x.orders(1, 1000, 0), -2);
    }

    private static void colours() {
        StoneGhosts x = new StoneGhosts();
        DUE.is("20: k 0", x.colours(0, 0), -2);
        DUE.is("20: k 7", x.colours(7, 0), -2);
        DUE.is("20: what -1", x.colours(1, -1), -2);
        DUE.is("20: what 2", x.colours(1, 2), -2);
        DUE.is("20: one", x.colours(1, 0), 0);
        DUE.is("20: six", x.colours(6, 0), 15);
        DUE.is("20: the first of all orders", x.colours(6, 1), 0);
        for (int c = 0; c < 6; c++) {
            x.hairs(c, 5 - c);
        }
        DUE.is("20: the other way round", x.colours(6, 0), 0);
        DUE.is("20: the last is first", x.colours(6, 1), 5);
        DUE.is("20: only 0 and 1: 5 and 4", x.colours(2, 0), 8);
        DUE.is("20: either way 8", x.colours(2, 1), 0);
        x.hairs(0, -9);
        x.hairs(1, 9);
        DUE.is("20: -9 first", x.colours(2, 0), 17);
        DUE.is("20: -9 first", x.colours(2, 1), 0);
        x.hairs(0, 9);
        x.hairs(1, -9);
        DUE.is("20: -9 first", x.colours(2, 0), 17);
        DUE.is("20: it is 1", x.colours(2, 1), 1);
    }
}
