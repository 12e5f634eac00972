import java.util.ArrayList;
import java.util.List;

/**
 * All that calls tell of an object: the state, what the PAD comes to, the SIGHTS, both IMAGES.
 * To look makes some 400 calls, so an object that was looked at is not used any more.
 */
final class Snapshot {
    private final List<String> calls = new ArrayList<>();
    private final List<Long> answers = new ArrayList<>();

    static Snapshot of(StoneGhosts x) {
        Snapshot s = new Snapshot();
        s.toldAll("", x);
        s.shop(x);
        s.sights("", x);
        for (int k = 0; k < 2; k++) {
            s.add("restore(" + k + ")", x.restore(k));
            s.toldAll("of image " + k + ": ", x);
            s.sights("of image " + k + ": ", x);
        }
        return s;
    }

    private void add(String call, long answer) {
        calls.add(call);
        answers.add(answer);
    }

    private void told(String of, StoneGhosts x, int what) {
        add(of + "told(" + what + ")", x.told(what));
    }

    private void toldAll(String of, StoneGhosts x) {
        for (int what = 0; what < 5; what++) told(of, x, what);
        for (int s = 0; s < 5; s++) {
            for (int i = 0; i < 5; i++) told(of, x, 10 * (1 + s) + i);
            for (int p = 0; p < 8; p++) told(of, x, 100 * (1 + s) + p);
        }
        for (int p = 0; p < 8; p++) {
            for (int i = 0; i < 3; i++) told(of, x, 1000 * (1 + p) + i);
        }
        for (int c = 0; c < 6; c++) told(of, x, 10000 + c);
    }

    private void shop(StoneGhosts x) {
        add("fault()", x.fault());
        for (int what = 0; what < 3; what++) add("judge(" + what + ")", x.judge(what));
        for (int kind = 0; kind < 5; kind++) add("kinds(" + kind + ")", x.kinds(kind));
        for (int what = 0; what < 2; what++) add("sky(" + what + ")", x.sky(what));
        for (int s = 0; s < 5; s++) {
            for (int what = 0; what < 5; what++) {
                add("behind(" + s + ", " + what + ")", x.behind(s, what));
            }
        }
    }

    private void sights(String of, StoneGhosts x) {
        for (int i = -1; i < 4; i++) add(of + "whose(" + i + ")", x.whose(i));
        add(of + "suspects()", x.suspects());
        add(of + "next(95, 0)", x.next(95, 0));
        add(of + "next(95, 1)", x.next(95, 1));
    }

    /** Prints each answer that another look gives otherwise. */
    void isAs(Due due, String when, Snapshot other) {
        due.is(when + ": looks", calls.size(), other.calls.size());
        for (int i = 0; i < calls.size(); i++) {
            due.is(when + ": " + calls.get(i), answers.get(i), other.answers.get(i));
        }
    }

    /** The calls whose answers another look gives otherwise. */
    List<String> otherwiseIn(Snapshot other) {
        List<String> found = new ArrayList<>();
        for (int i = 0; i < calls.size(); i++) {
            if (!answers.get(i).equals(other.answers.get(i))) found.add(calls.get(i));
        }
        return found;
    }
}
