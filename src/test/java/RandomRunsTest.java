import java.util.Random;

/** Promises 1 to 30: runs of 512 drawn calls, each answer held against the Oracle's. */
public final class RandomRunsTest {
    private final Due due;
    private final Random draws;
    private final StoneGhosts x = new StoneGhosts();
    private final Oracle o = new Oracle();
    private final int run;
    private int calls;

    private RandomRunsTest(Due due, int run) {
        this.due = due;
        this.run = run;
        this.draws = new Random(run);
    }

    public static void main(String[] args) {
        Due due = new Due();
        for (int run = 0; run < 2400 && due.allRight(); run++) {
            new RandomRunsTest(due, run).go();
        }
        due.end();
    }

    private void is(String call, long got, long want) {
        calls++;
        due.is("run " + run + ": " + call, got, want);
    }

    /** Mostly between low and high, both often, at times one beside them, seldom anything. */
    private int around(int low, int high) {
        switch (draws.nextInt(24)) {
            case 0: return low - 1;
            case 1: return high + 1;
            case 2: return draws.nextInt();
            case 3: return draws.nextBoolean() ? Integer.MIN_VALUE : Integer.MAX_VALUE;
            case 4: case 5: return low;
            case 6: case 7: return high;
            default: return low + draws.nextInt(high - low + 1);
        }
    }

    private void go() {
        if (run % 6 != 0) {
            setUp();
        }
        // What is done at once takes up to 220 calls: a SHOP of eight parts.
        while (calls < 512 - 220 && due.allRight()) {
            switch (draws.nextInt(8)) {
                case 0: case 1: shop(); break;
                case 2: change(); break;
                case 3: pulls(); break;
                case 4: ghosts(); break;
                case 5: tell(); break;
                case 6: keep(); break;
                default: askShop(); break;
            }
        }
        tellToTheEnd();
    }

    private void setUp() {
        for (int s = 0; s < 5; s++) {
            int thick = 3000 + draws.nextInt(1500), damp = draws.nextInt(21);
            is("stone", x.stone(s, thick, s, damp), o.stone(s, thick, s, damp));
        }
        for (int p = 0; p < 8; p++) {
            int deep = 1 + draws.nextInt(draws.nextBoolean() ? 12 : 60), fine = 1 + draws.nextInt(9), pay = draws.nextInt(6);
            is("picture", x.picture(p, deep, fine, pay), o.picture(p, deep, fine, pay));
        }
    }

    private void change() {
        int a, b, c, d;
        switch (draws.nextInt(6)) {
            case 0:
                a = around(0, 4); b = draws.nextBoolean() ? around(2990, 3100) : around(0, 9999);
                c = around(0, draws.nextBoolean() ? 25 : 99); d = around(0, 20);
                is("stone(" + a + ", " + b + ", " + c + ", " + d + ")", x.stone(a, b, c, d), o.stone(a, b, c, d));
                break;
            case 1:
                a = around(0, 4);
                if (draws.nextInt(4) == 0) is("smash(" + a + ")", x.smash(a), o.smash(a));
                break;
            case 2: case 3:
                a = around(0, 7); b = around(1, 60); c = around(1, 9);
                d = draws.nextBoolean() ? around(0, 5) : around(0, 999);
                is("picture(" + a + ", " + b + ", " + c + ", " + d + ")",
                    x.picture(a, b, c, d), o.picture(a, b, c, d));
                break;
            case 4:
                a = around(0, 1);
                b = a == 0 ? around(0, draws.nextBoolean() ? 25 : 99)
                    : draws.nextBoolean() ? around(2900, 3100) : around(0, 9999);
                is("set(" + a + ", " + b + ")", x.set(a, b), o.set(a, b));
                break;
            default:
                a = around(0, 5); b = around(-9, 9);
                is("hairs(" + a + ", " + b + ")", x.hairs(a, b), o.hairs(a, b));
                break;
        }
    }

    private char pick(String of) {
        return of.charAt(draws.nextInt(of.length()));
    }

    private String act() {
        char s = pick(draws.nextInt(3) == 0 ? "abcde" : "ab");
        switch (draws.nextInt(12)) {
            case 0: case 1: case 2: return "" + s + pick("ABCDEFGH");
            case 3: return "" + s + "o" + pick("123456789");
            case 4: return "" + s + "x" + pick("123456789");
            case 5: case 6: return "" + s + "w" + pick("123456789");
            case 7: return draws.nextInt(4) == 0 ? "" + s + "+" + pick("abcde") : "" + s + "w9";
            default: return "" + s + pick("123456789");
        }
    }

    /** A few ACTS that mostly can be: a STONE is ground, drawn on, wetted and pulled. */
    private String likely() {
        char s = pick("abcde");
        StringBuilder text = new StringBuilder();
        text.append(s).append(pick("xxxxo")).append(pick("12345")).append(s).append(pick("ABCDEFGH"));
        for (int i = draws.nextInt(4); i >= 0; i--) {
            if (draws.nextBoolean()) text.append(s).append('w').append(pick("123456789"));
            text.append(s).append(pick("123456789"));
        }
        return text.toString();
    }

    private void shop() {
        int more = 1 + draws.nextInt(draws.nextInt(4) == 0 ? 8 : 3);
        for (int i = 0; i < more; i++) {
            String text = draws.nextInt(5) == 0 ? act() : likely();
            for (int j = 0; j < text.length(); j++) {
                int sign = draws.nextInt(200) == 0 ? around(33, 126) : text.charAt(j);
                is("say(" + sign + ")", x.say(sign), o.say(sign));
            }
        }
        askShop();
        if (draws.nextInt(3) != 0) {
            is("done() of " + o.pad, x.done(), o.done());
        }
        if (draws.nextInt(8) != 0) {
            is("wipe()", x.wipe(), o.wipe());
        }
    }

    private void askShop() {
        String of = " of " + o.pad;
        is("fault()" + of, x.fault(), o.fault());
        for (int i = -1; i < 4; i++) is("judge(" + i + ")" + of, x.judge(i), o.judge(i));
        int k = around(0, 4);
        is("kinds(" + k + ")" + of, x.kinds(k), o.kinds(k));
        for (int i = 0; i < 2; i++) is("sky(" + i + ")" + of, x.sky(i), o.sky(i));
        int s = around(0, 4), what = around(0, 4), p = around(0, 7);
        is("sky(" + s + ")" + of, x.sky(s), o.sky(s));
        is("behind(" + s + ", " + what + ")" + of, x.behind(s, what), o.behind(s, what));
        is("fat(" + s + ", " + p + ")" + of, x.fat(s, p), o.fat(s, p));
    }

    private void pulls() {
        int s = around(0, 4), p = around(0, 7), m = draws.nextBoolean() ? around(0, 200) : around(0, 999);
        is("clean(" + s + ")", x.clean(s), o.clean(s));
        is("grind(" + s + ", " + p + ", " + m + ")", x.grind(s, p, m), o.grind(s, p, m));
        int l = around(1, 99);
        is("lives(" + s + ", " + l + ")", x.lives(s, l), o.lives(s, l));
        if (draws.nextInt(8) == 0) {
            int set = around(0, 255);
            is("orders(" + set + ", " + m + ", " + p + ")", x.orders(set, m, p), o.orders(set, m, p));
            is("orders(" + set + ", " + m + ", -1)", x.orders(set, m, -1), o.orders(set, m, -1));
        }
        int k = around(1, 6), what = around(0, 1);
        is("colours(" + k + ", " + what + ")", x.colours(k, what), o.colours(k, what));
    }

    private void ghosts() {
        int s = around(0, 4), v = draws.nextBoolean() ? around(28, 45) : around(0, 150);
        int m = around(0, 9), what = around(0, 1), part = around(0, 1);
        is("crack(" + s + ", " + v + ", " + m + ", " + what + ", " + part + ")",
            x.crack(s, v, m, what, part), o.crack(s, v, m, what, part));
        int p = around(0, 7), n = draws.nextBoolean() ? around(0, 200) : around(0, 999);
        for (int i = draws.nextInt(4); i > 0; i--) {
            boolean shows = draws.nextBoolean();
            is("seen(" + p + ", " + n + ", " + shows + ")", x.seen(p, n, shows), o.seen(p, n, shows));
        }
        if (draws.nextInt(9) == 0) is("forget()", x.forget(), o.forget());
        int i = draws.nextBoolean() ? around(0, 30) : around(0, 159);
        is("whose(-1)", x.whose(-1), o.whose(-1));
        is("whose(" + i + ")", x.whose(i), o.whose(i));
        is("suspects()", x.suspects(), o.suspects());
        int w = around(0, 1);
        is("next(" + n + ", " + w + ")", x.next(n, w), o.next(n, w));
        int seed = around(0, 9999), acts = around(1, 99), y = around(0, 2);
        is("year(" + seed + ", " + acts + ", " + y + ")", x.year(seed, acts, y), o.year(seed, acts, y));
    }

    private void tell() {
        for (int i = 0; i < 4; i++) {
            int what = draws.nextInt(10100) - 20;
            is("told(" + what + ")", x.told(what), o.told(what));
        }
        int what = around(0, 10006);
        is("told(" + what + ")", x.told(what), o.told(what));
    }

    private void keep() {
        int k = around(0, 1);
        if (draws.nextInt(3) == 0) is("image(" + k + ")", x.image(k), o.image(k));
        if (draws.nextInt(6) == 0) is("restore(" + k + ")", x.restore(k), o.restore(k));
    }

    /** What is told at the end, up to the 512th call. */
    private void tellToTheEnd() {
        while (calls < 512) {
            int what = toldNumber();
            is("told(" + what + ")", x.told(what), o.told(what));
        }
    }

    /** A number that told() knows, or one beside. */
    private int toldNumber() {
        switch (draws.nextInt(8)) {
            case 0: return 1000 * (1 + draws.nextInt(9)) + draws.nextInt(6) - 1;
            case 1: return 10000 + draws.nextInt(8) - 1;
            case 2: case 3: case 4: return draws.nextInt(65) - 2;
            default: return 100 * (1 + draws.nextInt(6)) + draws.nextInt(10) - 1;
        }
    }
}
