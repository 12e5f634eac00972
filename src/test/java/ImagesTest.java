/** Promises 28 to 30: images, what is told. */
public final class ImagesTest {
    private static final Due DUE = new Due();

    public static void main(String[] args) {
        images();
        told();
        DUE.end();
    }

    private static StoneGhosts some() {
        StoneGhosts x = new StoneGhosts();
        x.stone(1, 4000, 3, 10);
        x.picture(2, 50, 7, 77);
        x.set(0, 33);
        x.set(1, 2222);
        x.hairs(4, -3);
        x.seen(5, 100, true);
        Due.shop(x, "bCb9b2");
        return x;
    }

    private static void isSome(String when, StoneGhosts x) {
        int[][] want = {{1, 2}, {2, 33}, {3, 2222}, {4, 1}, {20, 4000}, {21, 3}, {22, 0}, {23, 2},
            {24, 11}, {200, 0}, {202, 47}, {3000, 50}, {3001, 7}, {3002, 77}, {1000, 30},
            {10004, 6}, {10000, 9}};
        for (int[] w : want) {
            DUE.is(when + ": told(" + w[0] + ")", x.told(w[0]), w[1]);
        }
        // F is 10 at its 100th pull: C shows up to 13 minutes, six others up to 6.
        DUE.is(when + ": whose(-1)", x.whose(-1), 13 + 6 * 6);
    }

    private static void spoil(StoneGhosts x) {
        x.smash(1);
        x.stone(1, 5000, 4, 11);
        x.stone(2, 5000, 4, 11);
        Due.shop(x, "bAb1");
        x.picture(2, 49, 6, 76);
        x.set(0, 34);
        x.set(1, 2223);
        x.hairs(4, 4);
        x.forget();
        x.seen(0, 0, false);
        x.seen(0, 0, false);
    }

    private static void images() {
        StoneGhosts x = some();
        isSome("29", x);
        DUE.is("29: not kept", x.restore(0), -3);
        DUE.is("29: not kept", x.restore(1), -3);
        DUE.is("29: k 2", x.restore(2), -2);
        DUE.is("29: k -1", x.restore(-1), -2);
        DUE.is("28: k 2", x.image(2), -2);
        DUE.is("28: k -1", x.image(-1), -2);
        DUE.is("28: kept", x.image(1), 1);
        DUE.is("29: 0 is not kept", x.restore(0), -3);
        spoil(x);
        Due.write(x, "ab");
        DUE.is("28: kept, too", x.image(0), 1);
        DUE.is("29: as it was", x.restore(1), 1);
        isSome("29: restored", x);
        DUE.is("29: the PAD stays", x.told(0), 2);
        spoil(x);
        DUE.is("29: again", x.restore(1), 1);
        isSome("29: restored again", x);
        DUE.is("29: the other one", x.restore(0), 1);
        DUE.is("29: is the other", x.told(1), 6);
        DUE.is("29: is the other", x.told(20), 5000);
        DUE.is("29: its sights", x.told(4), 2);
        DUE.is("28: kept over", x.image(1), 1);
        x.stone(0, 1, 1, 1);
        DUE.is("29: the newer one", x.restore(1), 1);
        DUE.is("29: is the newer", x.told(20), 5000);
        DUE.is("29: without what came later", x.told(1), 6);
    }

    private static void told() {
        StoneGhosts x = some();
        int[] none = {-1, 5, 6, 7, 8, 9, 10, 14, 15, 19, 25, 29, 30, 50, 60, 61, 99, 100, 107, 108, 199,
            208, 209, 299, 300, 507, 600, 999, 1003, 1999, 3003, 8003, 8999, 9000, 9002, 9999,
            10006, 10010, 11000, 20000, Integer.MAX_VALUE, Integer.MIN_VALUE};
        for (int what : none) {
            DUE.is("30: told(" + what + ")", x.told(what), -2);
        }
        DUE.is("30: 207", x.told(207), 0);
        DUE.is("30: 8002", x.told(8002), 10);
        DUE.is("30: 10005", x.told(10005), 9);
        x.stone(0, 1, 2, 3);
        x.stone(4, 4, 5, 6);
        DUE.is("30: STONES", x.told(1), 19);
        int[][] want = {{10, 1}, {11, 2}, {12, 3}, {13, -6}, {14, 0}, {50, 4}, {51, 5}, {52, 6},
            {53, -6}, {54, 0}, {100, 0}, {507, 0}, {55, -2}, {508, -2}};
        for (int[] w : want) {
            DUE.is("30: told(" + w[0] + ")", x.told(w[0]), w[1]);
        }
        Due.write(x, "abc");
        DUE.is("30: signs", x.told(0), 3);
    }
}
