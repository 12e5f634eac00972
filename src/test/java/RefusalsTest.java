import java.util.function.Supplier;
import java.util.function.ToLongFunction;

/**
 * "Calls that are refused answer, the first of these that fits: UNKNOWN, OUTSIDE, NO, STATE, FULL
 * ... They change nothing": every refusal of every promise, each on an object of its own, which
 * is looked at and held against one that was never asked. Likewise every call that only asks.
 */
public final class RefusalsTest {
    private static final Due DUE = new Due();
    private static final int MIN = Integer.MIN_VALUE, MAX = Integer.MAX_VALUE;
    private static final int UNKNOWN = -1, OUTSIDE = -2, STATE = -3, FULL = -4, NO = -5;

    public static void main(String[] args) {
        statesDiffer();
        stones();
        numbers();
        pad();
        shops();
        shopsThatAreNone();
        shopsThatCanNotBe();
        glued();
        pulls();
        orders();
        ghosts();
        sightsAreFull();
        images();
        askingChangesNothing();
        DUE.end();
    }

    /** a: E FRESH with 4 pulls, ghosts; b: a ghost; c: bare; no d, no e; image 0 of an earlier day. */
    private static StoneGhosts rich() {
        StoneGhosts x = new StoneGhosts();
        x.stone(0, 3300, 11, 19);
        x.stone(1, 3200, 3, 9);
        x.picture(4, 20, 7, 55);
        x.hairs(2, -4);
        x.seen(4, 40, true);
        Due.shop(x, "aBax2bC");
        x.image(0);
        x.stone(2, 3000, 20, 0);
        x.picture(1, 41, 2, 3);
        x.set(0, 21);
        x.set(1, 2990);
        x.hairs(5, 9);
        x.seen(3, 70, false);
        Due.shop(x, "bx1aEa4");
        Due.write(x, "a7b+c");
        return x;
    }

    private static StoneGhosts with(String pad) {
        StoneGhosts x = rich();
        Due.rewrite(x, pad);
        return x;
    }

    private static StoneGhosts full() {
        StoneGhosts x = rich();
        x.wipe();
        for (int i = 0; i < 60; i++) {
            x.say('a');
        }
        for (int i = 2; i < 8; i++) {
            x.seen(i, i, false);
        }
        return x;
    }

    private static void refused(String what, Supplier<StoneGhosts> state, long due, ToLongFunction<StoneGhosts> call) {
        StoneGhosts x = state.get();
        DUE.is(what, call.applyAsLong(x), due);
        Snapshot.of(x).isAs(DUE, what + ", then", Snapshot.of(state.get()));
    }

    private static void unknown(String what, ToLongFunction<StoneGhosts> call) {
        refused(what, RefusalsTest::rich, UNKNOWN, call);
    }

    private static void outside(String what, ToLongFunction<StoneGhosts> call) {
        refused(what, RefusalsTest::rich, OUTSIDE, call);
    }

    /** That a look sees what changes: else the tests below would hold by blindness. */
    private static void statesDiffer() {
        StoneGhosts r = rich();
        int[][] want = {{0, 5}, {1, 7}, {4, 2}, {13, 4}, {14, 4}, {12, 15}, {101, 24}, {104, 20}, {202, 27}, {23, -6}};
        for (int[] w : want) {
            DUE.is("30: rich, told(" + w[0] + ")", r.told(w[0]), w[1]);
        }
        DUE.is("10: rich, all ACTS can be", r.judge(0), -6);
        DUE.holds("24: rich, some fit", r.whose(-1) > 0 && r.whose(-1) < 160);
        DUE.is("7: full, signs", full().told(0), 60);
        DUE.is("22: full, SIGHTS", full().told(4), 8);
        DUE.holds("24: full, some fit", full().whose(-1) > 0);
        Snapshot as = Snapshot.of(rich());
        as.isAs(DUE, "30: the same twice", Snapshot.of(rich()));
        sees("2: stone", as, x -> x.stone(0, 3300, 11, 15));
        sees("3: smash", as, x -> x.smash(2));
        sees("4: picture", as, x -> x.picture(7, 30, 5, 11));
        sees("5: set", as, x -> x.set(0, 22));
        sees("6: hairs", as, x -> x.hairs(0, 1));
        sees("7: say", as, x -> x.say('a'));
        sees("8: wipe", as, x -> x.wipe());
        sees("15: done", as, x -> x.done());
        sees("22: seen", as, x -> x.seen(0, 0, true));
        sees("23: forget", as, x -> x.forget());
        sees("28: image(0)", as, x -> x.image(0));
        sees("28: image(1)", as, x -> x.image(1));
        sees("29: restore", as, x -> x.restore(0));
    }

    private static void sees(String what, Snapshot as, ToLongFunction<StoneGhosts> call) {
        StoneGhosts x = rich();
        DUE.holds(what + " is taken", call.applyAsLong(x) >= 0);
        DUE.holds(what + " is seen", !Snapshot.of(x).otherwiseIn(as).isEmpty());
    }

    private static void stones() {
        for (int s : new int[] {-1, 5, MIN, MAX}) {
            unknown("2: stone " + s, x -> x.stone(s, 4000, 0, 0));
            unknown("2: UNKNOWN ahead of OUTSIDE, stone " + s, x -> x.stone(s, -1, 100, 21));
        }
        for (int v : new int[] {-1, 10000, MIN, MAX}) outside("2: THICK " + v, x -> x.stone(0, v, 0, 0));
        for (int v : new int[] {-1, 100, MIN, MAX}) outside("2: HOLLOW " + v, x -> x.stone(0, 4000, v, 0));
        for (int v : new int[] {-1, 21, MIN, MAX}) outside("2: DAMP " + v, x -> x.stone(0, 4000, 0, v));
        outside("2: a STONE that there is not", x -> x.stone(4, 10000, 0, 0));
        for (int s : new int[] {-1, 3, 4, 5, 32, MIN, MAX}) unknown("3: smash " + s, x -> x.smash(s));
    }

    private static void numbers() {
        for (int p : new int[] {-1, 8, MIN, MAX}) {
            unknown("4: picture " + p, x -> x.picture(p, 1, 1, 1));
            unknown("4: UNKNOWN ahead of OUTSIDE, picture " + p, x -> x.picture(p, 0, 0, -1));
        }
        for (int v : new int[] {0, 61, -1, MIN, MAX}) outside("4: DEEP " + v, x -> x.picture(1, v, 1, 1));
        for (int v : new int[] {0, 10, -1, MIN, MAX}) outside("4: FINE " + v, x -> x.picture(1, 1, v, 1));
        for (int v : new int[] {-1, 1000, MIN, MAX}) outside("4: PAY " + v, x -> x.picture(1, 1, 1, v));
        for (int w : new int[] {-1, 2, MIN, MAX}) outside("5: which " + w, x -> x.set(w, 50));
        for (int v : new int[] {-1, 100, MIN, MAX}) outside("5: FLAT " + v, x -> x.set(0, v));
        for (int v : new int[] {-1, 10000, MIN, MAX}) outside("5: LEAST " + v, x -> x.set(1, v));
        for (int c : new int[] {-1, 6, MIN, MAX}) outside("6: COLOUR " + c, x -> x.hairs(c, 0));
        for (int v : new int[] {-10, 10, MIN, MAX}) outside("6: HAIRS " + v, x -> x.hairs(2, v));
    }

    private static void pad() {
        for (int sign : new int[] {32, 127, 0, -1, 10, 128, 256 + 97, 65536 + 97, MIN, MAX}) {
            outside("7: sign " + sign, x -> x.say(sign));
            refused("7: OUTSIDE ahead of FULL, sign " + sign, RefusalsTest::full, OUTSIDE, x -> x.say(sign));
        }
        for (int sign : new int[] {33, 'a', 'A', '1', '+', 126}) {
            refused("7: FULL, sign " + sign, RefusalsTest::full, FULL, x -> x.say(sign));
        }
    }

    /** OUTSIDE and UNKNOWN, whatever the PAD is. */
    private static void shops() {
        for (String text : new String[] {"a7b+c", "aAb", "eA", ""}) {
            Supplier<StoneGhosts> state = () -> with(text);
            for (int w : new int[] {-1, 3, MIN, MAX}) refused("10: what " + w + " of " + text, state, OUTSIDE, x -> x.judge(w));
            for (int k : new int[] {-1, 5, MIN, MAX}) refused("11: kind " + k + " of " + text, state, OUTSIDE, x -> x.kinds(k));
            for (int w : new int[] {-1, 2, MIN, MAX}) refused("14: what " + w + " of " + text, state, OUTSIDE, x -> x.sky(w));
            for (int w : new int[] {-1, 5, MIN, MAX}) {
                refused("12: what " + w + " of " + text, state, OUTSIDE, x -> x.behind(0, w));
                refused("12: UNKNOWN ahead of OUTSIDE of " + text, state, UNKNOWN, x -> x.behind(3, w));
            }
            for (int s : new int[] {-1, 3, 4, 5, MIN, MAX}) {
                refused("12: stone " + s + " of " + text, state, UNKNOWN, x -> x.behind(s, 0));
                refused("13: stone " + s + " of " + text, state, UNKNOWN, x -> x.fat(s, 0));
            }
            for (int p : new int[] {-1, 8, MIN, MAX}) {
                refused("13: picture " + p + " of " + text, state, UNKNOWN, x -> x.fat(0, p));
                refused("13: both, picture " + p + " of " + text, state, UNKNOWN, x -> x.fat(4, p));
            }
        }
    }

    /** NO: there is a FAULT; also where some ACT ahead of it can not be. */
    private static void shopsThatAreNone() {
        for (String text : new String[] {"aAb", "f", "a7a", "eAa", "a+", "aE~", "e1e1ew0"}) {
            Supplier<StoneGhosts> state = () -> with(text);
            for (int w = 0; w < 3; w++) {
                int what = w;
                refused("10: NO, judge(" + w + ") of " + text, state, NO, x -> x.judge(what));
            }
            for (int k = 0; k < 5; k++) {
                int kind = k;
                refused("11: NO, kinds(" + k + ") of " + text, state, NO, x -> x.kinds(kind));
                refused("12: NO, behind(0, " + k + ") of " + text, state, NO, x -> x.behind(0, kind));
            }
            refused("13: NO, fat of " + text, state, NO, x -> x.fat(0, 7));
            refused("14: NO, sky(0) of " + text, state, NO, x -> x.sky(0));
            refused("14: NO, sky(1) of " + text, state, NO, x -> x.sky(1));
            refused("15: NO, done of " + text, state, NO, x -> x.done());
        }
    }

    /** STATE: some ACT can not be, also behind others that could. */
    private static void shopsThatCanNotBe() {
        for (String text : new String[] {"eA", "a9bAe1", "aA", "b+ab1", "a+a", "bAbo9b1"}) {
            Supplier<StoneGhosts> state = () -> with(text);
            refused("10: STATE, judge(2) of " + text, state, STATE, x -> x.judge(2));
            for (int k = 0; k < 5; k++) {
                int kind = k;
                refused("11: STATE, kinds(" + k + ") of " + text, state, STATE, x -> x.kinds(kind));
                refused("12: STATE, behind(0, " + k + ") of " + text, state, STATE, x -> x.behind(0, kind));
            }
            refused("13: STATE, fat of " + text, state, STATE, x -> x.fat(0, 7));
            refused("14: STATE, sky(0) of " + text, state, STATE, x -> x.sky(0));
            refused("14: STATE, sky(1) of " + text, state, STATE, x -> x.sky(1));
            refused("15: STATE, done of " + text, state, STATE, x -> x.done());
        }
    }

    /** "UNKNOWN (behind that): it is glued then." */
    private static void glued() {
        for (int w = 0; w < 5; w++) {
            int what = w;
            refused("12: glued, behind(2, " + w + ")", () -> with("b+c"), UNKNOWN, x -> x.behind(2, what));
        }
        for (int p = 0; p < 8; p++) {
            int picture = p;
            refused("13: glued, fat(2, " + p + ")", () -> with("b+c"), UNKNOWN, x -> x.fat(2, picture));
        }
        refused("12: OUTSIDE ahead of glued", () -> with("b+c"), OUTSIDE, x -> x.behind(2, 5));
        refused("12: NO ahead of glued", () -> with("b+cb"), NO, x -> x.behind(2, 0));
        refused("13: NO ahead of glued", () -> with("b+cb"), NO, x -> x.fat(2, 0));
        refused("12: STATE ahead of glued", () -> with("b+ccw1"), STATE, x -> x.behind(2, 0));
        refused("13: STATE ahead of glued", () -> with("b+ccw1"), STATE, x -> x.fat(2, 0));
    }

    private static void pulls() {
        for (int s : new int[] {-1, 3, 4, 5, MIN, MAX}) {
            unknown("16: stone " + s, x -> x.clean(s));
            unknown("17: stone " + s, x -> x.grind(s, 0, 0));
            unknown("17: UNKNOWN ahead of OUTSIDE, stone " + s, x -> x.grind(s, 0, 1000));
            unknown("18: stone " + s, x -> x.lives(s, 1));
            unknown("18: UNKNOWN ahead of OUTSIDE, stone " + s, x -> x.lives(s, 0));
        }
        refused("16: nothing is FRESH", RefusalsTest::rich, STATE, x -> x.clean(2));
        for (int p : new int[] {-1, 8, MIN, MAX}) {
            unknown("17: picture " + p, x -> x.grind(0, p, 0));
            unknown("17: UNKNOWN ahead of OUTSIDE, picture " + p, x -> x.grind(0, p, -1));
        }
        for (int m : new int[] {-1, 1000, MIN, MAX}) outside("17: m " + m, x -> x.grind(0, 0, m));
        for (int m : new int[] {0, 100, -1, MIN, MAX}) outside("18: m " + m, x -> x.lives(0, m));
        for (int k : new int[] {0, 7, -1, MIN, MAX}) outside("20: k " + k, x -> x.colours(k, 0));
        for (int w : new int[] {-1, 2, MIN, MAX}) outside("20: what " + w, x -> x.colours(6, w));
    }

    private static void orders() {
        for (int p : new int[] {-2, 8, 31, 32, 33, MIN, MAX}) {
            unknown("19: picture " + p, x -> x.orders(255, 0, p));
            unknown("19: UNKNOWN ahead of OUTSIDE, picture " + p, x -> x.orders(256, 1000, p));
        }
        for (int p = 0; p < 8; p++) {
            int picture = p;
            unknown("19: bit " + p + " is not in the set", x -> x.orders(255 - (1 << picture), 0, picture));
            unknown("19: UNKNOWN ahead of OUTSIDE, bit " + p, x -> x.orders(0, -1, picture));
        }
        for (int set : new int[] {-1, 256, MIN, MAX}) {
            outside("19: PAY of set " + set, x -> x.orders(set, 0, -1));
        }
        outside("19: the bit is in set -1", x -> x.orders(-1, 0, 3));
        outside("19: the bit is in set 257", x -> x.orders(257, 0, 0));
        for (int m : new int[] {-1, 1000, MIN, MAX}) {
            outside("19: m " + m, x -> x.orders(255, m, -1));
            outside("19: m " + m, x -> x.orders(255, m, 0));
        }
    }

    private static void ghosts() {
        for (int s : new int[] {-1, 3, 4, 5, MIN, MAX}) {
            gone("21: stone " + s, UNKNOWN, x -> x.crack(s, 0, 0, 0, 0));
            gone("21: UNKNOWN ahead of OUTSIDE, stone " + s, UNKNOWN, x -> x.crack(s, -1, -1, -1, -1));
        }
        for (int v : new int[] {-1, 151, MIN, MAX}) gone("21: v " + v, OUTSIDE, x -> x.crack(0, v, 1, 0, 0));
        for (int m : new int[] {-1, 10, MIN, MAX}) gone("21: m " + m, OUTSIDE, x -> x.crack(0, 1, m, 0, 0));
        for (int w : new int[] {-1, 2, MIN, MAX}) gone("21: what " + w, OUTSIDE, x -> x.crack(0, 1, 1, w, 0));
        for (int p : new int[] {-1, 2, MIN, MAX}) gone("21: part " + p, OUTSIDE, x -> x.crack(0, 1, 1, 0, p));
        for (int n : new int[] {-1, 1000, MIN, MAX}) {
            outside("22: n " + n, x -> x.seen(0, n, true));
            outside("26: n " + n, x -> x.next(n, 0));
        }
        for (int p : new int[] {-1, 8, MIN, MAX}) {
            unknown("22: picture " + p, x -> x.seen(p, 0, true));
            unknown("22: UNKNOWN ahead of OUTSIDE, picture " + p, x -> x.seen(p, -1, false));
        }
        for (int w : new int[] {-1, 2, MIN, MAX}) outside("26: what " + w, x -> x.next(0, w));
        for (int s : new int[] {-1, 10000, MIN, MAX}) outside("27: seed " + s, x -> x.year(s, 1, 0));
        for (int m : new int[] {0, 100, -1, MIN, MAX}) outside("27: m " + m, x -> x.year(0, m, 0));
        for (int w : new int[] {-1, 3, MIN, MAX}) outside("27: what " + w, x -> x.year(0, 1, w));
    }

    private static void gone(String what, long refusal, ToLongFunction<StoneGhosts> call) {
        refused(what, RefusalsTest::rich, -1000000000000000000L + refusal, call);
    }

    private static void sightsAreFull() {
        refused("22: FULL", RefusalsTest::full, FULL, x -> x.seen(0, 0, true));
        refused("22: FULL", RefusalsTest::full, FULL, x -> x.seen(7, 999, false));
        refused("22: UNKNOWN ahead of FULL", RefusalsTest::full, UNKNOWN, x -> x.seen(8, 0, true));
        refused("22: OUTSIDE ahead of FULL", RefusalsTest::full, OUTSIDE, x -> x.seen(0, 1000, true));
    }

    private static void images() {
        for (int k : new int[] {-1, 2, MIN, MAX}) {
            outside("28: image " + k, x -> x.image(k));
            outside("29: restore " + k, x -> x.restore(k));
        }
        refused("29: it was not kept", RefusalsTest::rich, STATE, x -> x.restore(1));
        for (int what : new int[] {-1, 5, 9, 15, 40, 44, 50, 59, 108, 400, 507, 600, 1003, 9000, 10006, MIN, MAX}) {
            outside("30: told(" + what + ")", x -> x.told(what));
        }
    }

    private static void asks(String what, ToLongFunction<StoneGhosts> call) {
        StoneGhosts x = rich();
        long got = call.applyAsLong(x);
        DUE.holds(what + " is answered: " + got, got >= 0 || got == -6);
        Snapshot.of(x).isAs(DUE, what + ", then", Snapshot.of(rich()));
    }

    /** Calls that tell what would be: "Nothing is DONE in fact." */
    private static void askingChangesNothing() {
        asks("9: fault()", x -> x.fault());
        for (int w = 0; w < 3; w++) {
            int what = w;
            asks("10: judge(" + w + ")", x -> x.judge(what));
            asks("27: year(1234, 99, " + w + ")", x -> x.year(1234, 99, what));
        }
        asks("11: kinds(2)", x -> x.kinds(2));
        asks("12: behind(1, 0)", x -> x.behind(1, 0));
        asks("13: fat(0, 1)", x -> x.fat(0, 1));
        asks("14: sky(0)", x -> x.sky(0));
        asks("16: clean(0)", x -> x.clean(0));
        asks("17: grind(0, 0, 99)", x -> x.grind(0, 0, 99));
        asks("18: lives(0, 9)", x -> x.lives(0, 9));
        asks("19: orders(255, 9, -1)", x -> x.orders(255, 9, -1));
        asks("19: orders(255, 9, 1)", x -> x.orders(255, 9, 1));
        asks("20: colours(6, 0)", x -> x.colours(6, 0));
        asks("20: colours(6, 1)", x -> x.colours(6, 1));
        asks("21: crack(0, 35, 9, 1, 0)", x -> x.crack(0, 35, 9, 1, 0));
        asks("24: whose(0)", x -> x.whose(0));
        asks("24: whose(999)", x -> x.whose(999));
        asks("25: suspects()", x -> x.suspects());
        asks("26: next(50, 0)", x -> x.next(50, 0));
        asks("30: told(10)", x -> x.told(10));
    }
}
