import java.util.Map;
import java.util.TreeMap;
import java.util.function.Supplier;

/** The edges that the document names, sentence by sentence: promises 28 to 30, and 512 calls. */
public final class ImagesEdgesTest {
    private static final Due DUE = new Due();

    public static void main(String[] args) {
        allButThePad();
        keptOver();
        notKept();
        restoredTwice();
        keptIsApart();
        eightSightsKept();
        ofANewObject();
        pullsCountOn();
        toldOfNoStones();
        toldOfAllStones();
        toldOfSomeStones();
        upTo512Calls();
        DUE.end();
    }

    private static StoneGhosts some() {
        StoneGhosts x = new StoneGhosts();
        x.stone(0, 3500, 5, 12);
        x.stone(3, 4500, 15, 2);
        x.picture(2, 44, 8, 321);
        x.set(0, 30);
        x.set(1, 1234);
        x.hairs(3, -7);
        x.seen(2, 110, true);
        x.seen(5, 3, false);
        Due.shop(x, "aAax3aCa9a4");
        return x;
    }

    private static void changeAll(StoneGhosts x) {
        Due.shop(x, "a1ax1aBdH");
        x.smash(3);
        x.stone(4, 1, 1, 1);
        for (int p = 0; p < 8; p++) x.picture(p, 3, 3, 3);
        x.set(0, 98);
        x.set(1, 77);
        for (int c = 0; c < 6; c++) x.hairs(c, 5);
        x.forget();
        x.seen(7, 7, true);
    }

    /** "All but the PAD is kept", and "It is as it was when it was kept". */
    private static void allButThePad() {
        for (int k = 0; k < 2; k++) {
            StoneGhosts x = some();
            DUE.is("28: image(" + k + ")", x.image(k), 1);
            changeAll(x);
            DUE.is("29: restore(" + k + ")", x.restore(k), 1);
            StoneGhosts as = some();
            as.image(k);
            Snapshot.of(x).isAs(DUE, "29: as it was", Snapshot.of(as));
        }
        // The PAD is not kept, and not touched: not by image, not by restore.
        StoneGhosts y = some();
        Due.write(y, "a1a2");
        DUE.is("28: image", y.image(0), 1);
        DUE.is("30: signs", y.told(0), 4);
        Due.rewrite(y, "aw5aw");
        DUE.is("29: restore", y.restore(0), 1);
        DUE.is("30: signs", y.told(0), 5);
        DUE.is("9: fault", y.fault(), 5);
        DUE.is("7: one more", y.say('1'), 6);
        DUE.is("9: no fault", y.fault(), -6);
        DUE.is("12: DAMP by what is on the PAD", y.behind(0, 2), 6);
        y.wipe();
        DUE.is("29: restore", y.restore(0), 1);
        DUE.is("30: the PAD stays empty", y.told(0), 0);
    }

    /** A second image(k) is in place of the first; the other one stays. */
    private static void keptOver() {
        StoneGhosts x = new StoneGhosts();
        x.set(0, 1);
        x.image(0);
        x.set(0, 2);
        x.image(1);
        x.set(0, 3);
        x.image(0);
        x.set(0, 4);
        DUE.is("29: restore(1)", x.restore(1), 1);
        DUE.is("29: the other one", x.told(2), 2);
        DUE.is("29: restore(0)", x.restore(0), 1);
        DUE.is("29: the newer of 0", x.told(2), 3);
        DUE.is("29: restore(1)", x.restore(1), 1);
        DUE.is("29: the other one again", x.told(2), 2);
    }

    /** "STATE: it was not", of each by itself. */
    private static void notKept() {
        StoneGhosts x = new StoneGhosts();
        DUE.is("29: 0", x.restore(0), -3);
        DUE.is("29: 1", x.restore(1), -3);
        DUE.is("28: refused", x.image(2), -2);
        DUE.is("29: 0 still", x.restore(0), -3);
        DUE.is("28: 0", x.image(0), 1);
        DUE.is("29: 1 still", x.restore(1), -3);
        DUE.is("29: 0", x.restore(0), 1);
        DUE.is("29: 1 still", x.restore(1), -3);
        StoneGhosts y = new StoneGhosts();
        DUE.is("28: 1", y.image(1), 1);
        DUE.is("29: not 0", y.restore(0), -3);
        DUE.is("29: 1", y.restore(1), 1);
        DUE.range("28: k", 0, 1, -2, y::image);
        DUE.range("29: k", 0, 1, -2, y::restore);
    }

    /** Restored, it is still kept. */
    private static void restoredTwice() {
        StoneGhosts x = some();
        x.image(1);
        for (int i = 0; i < 3; i++) {
            changeAll(x);
            DUE.is("29: restore " + i, x.restore(1), 1);
            DUE.is("29: THICK", x.told(10), 3491);
            DUE.is("29: FRESH", x.told(13), 2);
            DUE.is("29: pulls", x.told(14), 13);
            DUE.is("29: FAT", x.told(100), 21);
            DUE.is("29: FAT, worn", x.told(102), 41);
            DUE.is("29: STONES", x.told(1), 9);
            DUE.is("29: SIGHTS", x.told(4), 2);
        }
    }

    /** What is changed behind image or restore is not changed in what is kept. */
    private static void keptIsApart() {
        StoneGhosts x = some();
        x.image(0);
        x.image(1);
        x.restore(0);
        changeAll(x);
        x.image(0);
        DUE.is("29: 1 is as it was", x.restore(1), 1);
        StoneGhosts as = some();
        as.image(1);
        changeAll(as);
        as.image(0);
        as.restore(1);
        Snapshot.of(x).isAs(DUE, "29: both as kept", Snapshot.of(as));
    }

    /** Each of eight SIGHTS is kept: PICTURE, pull, and whether it showed. */
    private static void eightSightsKept() {
        for (int at = 0; at < 8; at++) {
            StoneGhosts x = new StoneGhosts();
            x.picture(0, 60, 1, 0);
            // Only that one tells: A is more than 24 of C, up to 11 minutes; B of 30 is more than that, too.
            for (int i = 0; i < 8; i++) x.seen(i == at ? 2 : 0, i == at ? 30 : 0, i == at);
            int fit = x.whose(-1), last = x.whose(fit - 1);
            DUE.is("24: A up to 11, six others for 1", fit, 17);
            x.image(0);
            x.forget();
            for (int i = 0; i < 8; i++) x.seen(0, 0, false);
            DUE.is("24: all fit", x.whose(-1), 160);
            x.restore(0);
            DUE.is("29: SIGHTS", x.told(4), 8);
            DUE.is("29: as many fit, " + at, x.whose(-1), fit);
            DUE.is("29: the last, " + at, x.whose(fit - 1), last);
            DUE.is("29: all but C, " + at, x.suspects(), 251);
        }
    }

    private static void ofANewObject() {
        StoneGhosts x = new StoneGhosts();
        x.image(0);
        changeAll(x);
        x.stone(0, 5, 5, 5);
        DUE.is("29: restore", x.restore(0), 1);
        StoneGhosts as = new StoneGhosts();
        as.image(0);
        Due.write(as, "a1ax1aBdH");
        Snapshot.of(x).isAs(DUE, "29: as a new one", Snapshot.of(as));
        // A STONE that came behind the image is no more, and comes back without FAT.
        StoneGhosts y = new StoneGhosts();
        y.image(0);
        y.stone(0, 4000, 0, 10);
        Due.shop(y, "aA");
        y.restore(0);
        DUE.is("30: STONES", y.told(1), 0);
        DUE.is("2: anew", y.stone(0, 4000, 0, 10), 1);
        DUE.is("30: without FAT", y.told(100), 0);
        DUE.is("30: nothing FRESH", y.told(13), -6);
    }

    /** Pulls of the FRESH one are kept, and so the tenth comes when it would have come. */
    private static void pullsCountOn() {
        StoneGhosts x = new StoneGhosts();
        x.stone(0, 4000, 0, 20);
        Due.shop(x, "aAa8");
        x.image(0);
        Due.shop(x, "a9a9");
        DUE.is("29: restore", x.restore(0), 1);
        Due.shop(x, "a1");
        DUE.is("30: the ninth", x.told(100), 30);
        Due.shop(x, "a1");
        DUE.is("30: the tenth", x.told(100), 28);
        DUE.is("30: DAMP", x.told(12), 10);
    }

    private static int[] known(StoneGhosts x, int from, int size) {
        int[] answers = new int[size];
        for (int i = 0; i < size; i++) answers[i] = x.told(from + i);
        return answers;
    }

    /** Every number from far below to far above: those of the list, and OUTSIDE for all others. */
    private static void toldIs(String name, Supplier<StoneGhosts> state, Map<Integer, Integer> due) {
        for (int from = -1000; from < 12200; from += 400) {
            int[] got = known(state.get(), from, 400);
            for (int i = 0; i < 400; i++) {
                DUE.is(name + ": told(" + (from + i) + ")", got[i], due.getOrDefault(from + i, -2));
            }
        }
        for (int what : new int[] {Integer.MIN_VALUE, Integer.MAX_VALUE, 20000, 100000, 1000000, -10000}) {
            DUE.is(name + ": told(" + what + ")", state.get().told(what), -2);
        }
    }

    private static Map<Integer, Integer> first() {
        Map<Integer, Integer> due = new TreeMap<>();
        due.put(0, 0);
        due.put(1, 0);
        due.put(2, 20);
        due.put(3, 3000);
        due.put(4, 0);
        for (int p = 0; p < 8; p++) {
            due.put(1000 * (1 + p), 30);
            due.put(1000 * (1 + p) + 1, 5);
            due.put(1000 * (1 + p) + 2, 10);
        }
        for (int c = 0; c < 6; c++) due.put(10000 + c, 9);
        return due;
    }

    private static void toldOfNoStones() {
        toldIs("30: no STONES", StoneGhosts::new, first());
    }

    private static void stoneIs(Map<Integer, Integer> due, int s, int... want) {
        for (int i = 0; i < 5; i++) due.put(10 * (1 + s) + i, want[i]);
        for (int p = 0; p < 8; p++) due.put(100 * (1 + s) + p, 0);
    }

    private static void toldOfAllStones() {
        Map<Integer, Integer> due = first();
        due.put(1, 31);
        for (int s = 0; s < 5; s++) stoneIs(due, s, 4000 + s, s, 10 + s, 7 - s, s + 1);
        for (int s = 0; s < 5; s++) {
            due.put(100 * (1 + s) + 7 - s, 30);
            due.put(10 * (1 + s) + 2, 9);
        }
        toldIs("30: all STONES", () -> {
            StoneGhosts x = new StoneGhosts();
            for (int s = 0; s < 5; s++) x.stone(s, 4000 + s, s, 10 + s);
            Due.shop(x, "aHa1bGb2cFc3dEd4eDe5");
            return x;
        }, due);
    }

    private static void toldOfSomeStones() {
        Map<Integer, Integer> due = first();
        due.put(0, 3);
        due.put(1, 10);
        due.put(2, 0);
        due.put(3, 9999);
        due.put(4, 8);
        due.put(3000, 60);
        due.put(3001, 9);
        due.put(3002, 999);
        due.put(10000, 0);
        due.put(10005, 18);
        stoneIs(due, 1, 0, 99, 0, -6, 0);
        stoneIs(due, 3, 9999, 0, 20, 2, 0);
        due.put(402, 60);
        toldIs("30: some STONES", () -> {
            StoneGhosts x = new StoneGhosts();
            x.stone(0, 4000, 0, 0);
            x.stone(1, 0, 99, 0);
            x.stone(3, 9999, 0, 20);
            x.picture(2, 60, 9, 999);
            Due.shop(x, "dC");
            x.smash(0);
            x.set(0, 0);
            x.set(1, 9999);
            x.hairs(0, -9);
            x.hairs(5, 9);
            for (int i = 0; i < 8; i++) x.seen(i, i, false);
            Due.write(x, "~!~");
            return x;
        }, due);
    }

    /** "An object is used for at most 512 calls": up to the 512th it answers as is due. */
    private static void upTo512Calls() {
        StoneGhosts x = new StoneGhosts();
        x.stone(0, 4000, 0, 20);
        int calls = 1;
        for (int n = 1; calls + 5 <= 511; n++) {
            x.wipe();
            x.say('a');
            x.say(n == 1 ? 'A' : '9');
            DUE.is("15: shop " + n, x.done(), 1);
            DUE.is("30: pulls behind " + n, x.told(14), 9 * (n - 1));
            calls += 5;
        }
        DUE.is("30: the 512th call", x.told(100), 0);
        // Call after call of what an object keeps: nothing runs full but the PAD and the SIGHTS.
        StoneGhosts y = new StoneGhosts();
        for (int i = 0; i < 128; i++) {
            DUE.is("2: stone " + i, y.stone(i % 5, i, i % 100, i % 21), Math.min(5, i + 1));
            DUE.is("28: image " + i, y.image(i % 2), 1);
            DUE.is("29: restore " + i, y.restore(i % 2), 1);
            DUE.is("30: THICK " + i, y.told(10 * (1 + i % 5)), i);
        }
    }
}
