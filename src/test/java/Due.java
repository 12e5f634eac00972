import java.util.function.IntToLongFunction;

/** Counts and prints answers that are not the ones due. */
final class Due {
    private int asked;
    private int wrong;

    void is(String call, long got, long want) {
        asked++;
        if (got != want) {
            wrong++;
            System.out.println(call + " answered " + got + ", due is " + want);
        }
    }

    void holds(String what, boolean so) {
        asked++;
        if (!so) {
            wrong++;
            System.out.println("does not hold: " + what);
        }
    }

    /** Low and high are taken; what is beside them, and what is far from them, is refused. */
    void range(String call, int low, int high, long refusal, IntToLongFunction with) {
        for (int v : new int[] {low, low + 1, high - 1, high}) {
            long got = with.applyAsLong(v);
            holds(call + " with " + v + " is taken, answered " + got, got >= 0 || got == StoneGhosts.NONE);
        }
        for (int v : new int[] {low - 1, high + 1, -100000, 100000, Integer.MIN_VALUE, Integer.MAX_VALUE}) {
            is(call + " with " + v, with.applyAsLong(v), refusal);
        }
    }

    boolean allRight() {
        return wrong == 0;
    }

    /** Ends the test: with exit code 1, if an answer was wrong or none was asked. */
    void end() {
        System.out.println(asked + " answers, " + wrong + " not as due");
        if (wrong != 0 || asked == 0) {
            System.exit(1);
        }
    }

    /** Writes a whole text on the PAD. */
    static void write(StoneGhosts x, String text) {
        for (int i = 0; i < text.length(); i++) {
            x.say(text.charAt(i));
        }
    }

    /** Writes a whole text on the PAD in place of what is there. */
    static void rewrite(StoneGhosts x, String text) {
        x.wipe();
        write(x, text);
    }

    /** Writes and does a SHOP. */
    static int shop(StoneGhosts x, String text) {
        rewrite(x, text);
        return x.done();
    }
}
