/** The edges that the document names, sentence by sentence: promises 1 to 9. */
public final class StonesEdgesTest {
    private static final Due DUE = new Due();

    public static void main(String[] args) {
        newObjectAnswers();
        objectsAreApart();
        stonesAreCounted();
        stoneNumbers();
        stoneAnew();
        eachStoneAnew();
        smashed();
        pictureNumbers();
        pictureOnlyThat();
        settings();
        hairs();
        signs();
        sixtySigns();
        wiped();
        everySignInEveryPlace();
        moreMustCome();
        faultIsToldAnew();
        DUE.end();
    }

    /** "No STONES.": what every other call answers then. */
    private static void newObjectAnswers() {
        StoneGhosts x = new StoneGhosts();
        DUE.is("1: fault()", x.fault(), -6);
        DUE.is("1: judge(0)", x.judge(0), -6);
        DUE.is("1: judge(1)", x.judge(1), -6);
        DUE.is("1: judge(2)", x.judge(2), 0);
        for (int kind = 0; kind < 5; kind++) DUE.is("1: kinds(" + kind + ")", x.kinds(kind), 0);
        DUE.is("1: sky(0)", x.sky(0), -6);
        DUE.is("1: sky(1)", x.sky(1), -6);
        DUE.is("1: done()", x.done(), 0);
        DUE.is("1: wipe()", x.wipe(), 0);
        DUE.is("1: forget()", x.forget(), 0);
        for (int s = 0; s < 5; s++) {
            DUE.is("1: smash(" + s + ")", x.smash(s), -1);
            DUE.is("1: behind(" + s + ", 0)", x.behind(s, 0), -1);
            DUE.is("1: fat(" + s + ", 0)", x.fat(s, 0), -1);
            DUE.is("1: clean(" + s + ")", x.clean(s), -1);
            DUE.is("1: grind(" + s + ", 0, 0)", x.grind(s, 0, 0), -1);
            DUE.is("1: lives(" + s + ", 1)", x.lives(s, 1), -1);
            DUE.is("1: crack(" + s + ", 0, 0, 0, 0)", x.crack(s, 0, 0, 0, 0), StoneGhosts.GONE - 1);
        }
        DUE.is("1: orders(255, 0, -1)", x.orders(255, 0, -1), 0);
        DUE.is("1: colours(6, 0)", x.colours(6, 0), 15);
        DUE.is("1: whose(-1)", x.whose(-1), 160);
        DUE.is("1: suspects()", x.suspects(), 255);
        for (int what = 0; what < 3; what++) DUE.is("1: year(0, 99, " + what + ")", x.year(0, 99, what), 0);
        DUE.is("1: restore(0)", x.restore(0), -3);
        DUE.is("1: restore(1)", x.restore(1), -3);
        DUE.is("1: still no STONES", x.told(1), 0);
    }

    /** What is done to one object is not done to another, older or newer. */
    private static void objectsAreApart() {
        StoneGhosts older = new StoneGhosts();
        StoneGhosts x = new StoneGhosts();
        x.stone(0, 4000, 1, 10);
        x.picture(0, 60, 9, 999);
        x.set(0, 99);
        x.set(1, 0);
        x.hairs(0, 9);
        x.seen(0, 0, true);
        x.image(0);
        Due.write(x, "aA");
        Snapshot plain = Snapshot.of(new StoneGhosts());
        Snapshot.of(older).isAs(DUE, "1: an older object", plain);
        Snapshot.of(new StoneGhosts()).isAs(DUE, "1: a newer object", plain);
    }

    /** "A STONE is there (or anew), ...: how many are." */
    private static void stonesAreCounted() {
        StoneGhosts x = new StoneGhosts();
        int[] order = {3, 0, 4, 1, 2};
        int bits = 0;
        for (int i = 0; i < 5; i++) {
            DUE.is("2: stone " + order[i], x.stone(order[i], 100 * i, i, i), i + 1);
            DUE.is("2: anew " + order[i], x.stone(order[i], 100 * i, i, i), i + 1);
            bits |= 1 << order[i];
            DUE.is("2: STONES", x.told(1), bits);
        }
        for (int i = 0; i < 5; i++) {
            DUE.is("2: THICK of " + order[i], x.told(10 * (1 + order[i])), 100 * i);
            DUE.is("2: HOLLOW of " + order[i], x.told(10 * (1 + order[i]) + 1), i);
            DUE.is("2: DAMP of " + order[i], x.told(10 * (1 + order[i]) + 2), i);
        }
    }

    /** "STONES 0 to 4", "THICK (0 to 9999 hundredths), HOLLOW (0 to 99), DAMP (0 to 20)". */
    private static void stoneNumbers() {
        StoneGhosts x = new StoneGhosts();
        DUE.range("2: STONE", 0, 4, -1, s -> x.stone(s, 1, 1, 1));
        DUE.range("2: THICK", 0, 9999, -2, v -> x.stone(0, v, 0, 0));
        DUE.is("2: THICK stays", x.told(10), 9999);
        DUE.range("2: HOLLOW", 0, 99, -2, v -> x.stone(0, 0, v, 0));
        DUE.is("2: HOLLOW stays", x.told(11), 99);
        DUE.range("2: DAMP", 0, 20, -2, v -> x.stone(0, 0, 0, v));
        DUE.is("2: DAMP stays", x.told(12), 20);
        // One number that is not as told is enough, whichever it is.
        DUE.is("2: THICK alone", x.stone(1, 10000, 99, 20), -2);
        DUE.is("2: HOLLOW alone", x.stone(1, 9999, 100, 20), -2);
        DUE.is("2: DAMP alone", x.stone(1, 9999, 99, 21), -2);
    }

    /** "(or anew), without FAT": of every PICTURE; others keep theirs. */
    private static void stoneAnew() {
        StoneGhosts x = new StoneGhosts();
        x.stone(0, 4000, 0, 10);
        x.stone(1, 4000, 0, 10);
        DUE.is("2: drawn", Due.shop(x, "aAax1aBax1aCax1aDax1aEax1aFax1aGax1aHa3bAb3"), 18);
        for (int p = 0; p < 8; p++) DUE.is("2: FAT of " + p, x.told(100 + p), 9 + 3 * p);
        DUE.is("2: refused, FAT stays", x.stone(0, 4000, 0, 21), -2);
        DUE.is("2: refused, FAT stays", x.told(107), 30);
        DUE.is("2: refused, FRESH stays", x.told(13), 7);
        DUE.is("2: anew", x.stone(0, 3500, 2, 3), 2);
        for (int p = 0; p < 8; p++) DUE.is("2: no FAT of " + p, x.told(100 + p), 0);
        DUE.is("2: THICK", x.told(10), 3500);
        DUE.is("2: HOLLOW", x.told(11), 2);
        DUE.is("2: DAMP", x.told(12), 3);
        DUE.is("2: nothing is FRESH", x.told(13), -6);
        DUE.is("2: no pulls", x.told(14), 0);
        DUE.is("2: it can be drawn on", Due.shop(x, "aA"), 1);
        DUE.is("2: b stays: FAT", x.told(200), 30);
        DUE.is("2: b stays: FRESH", x.told(23), 0);
        DUE.is("2: b stays: pulls", x.told(24), 3);
        DUE.is("2: b stays: DAMP", x.told(22), 7);
    }

    /** FAT of each PICTURE on each STONE is its own. */
    private static void eachStoneAnew() {
        for (int anew = 0; anew < 5; anew++) {
            StoneGhosts x = new StoneGhosts();
            for (int s = 0; s < 5; s++) {
                x.stone(s, 4000, 0, 10);
                String all = "aAax1aBax1aCax1aDax1aEax1aFax1aGax1aHa1".replace('a', (char) ('a' + s));
                DUE.is("2: drawn on " + s, Due.shop(x, all), 16);
            }
            DUE.is("2: anew, " + anew, x.stone(anew, 3500, 1, 2), 5);
            for (int s = 0; s < 5; s++) {
                for (int p = 0; p < 8; p++) {
                    DUE.is("2: anew " + anew + ", FAT of " + p + " on " + s, x.told(100 * (1 + s) + p), s == anew ? 0 : 9 + 3 * p);
                }
                DUE.is("2: anew " + anew + ", FRESH on " + s, x.told(10 * (1 + s) + 3), s == anew ? -6 : 7);
                DUE.is("2: anew " + anew + ", pulls on " + s, x.told(10 * (1 + s) + 4), s == anew ? 0 : 1);
            }
        }
    }

    /** "A STONE is no more: how many are. UNKNOWN: there was none." */
    private static void smashed() {
        StoneGhosts x = new StoneGhosts();
        for (int s = 0; s < 5; s++) x.stone(s, 4000 + s, s, 10 + s);
        Due.shop(x, "aAbBcCdDeE");
        for (int s = 0; s < 5; s++) {
            DUE.is("3: smash " + s, x.smash(s), 4 - s);
            DUE.is("3: smash " + s + " again", x.smash(s), -1);
            DUE.is("3: STONES", x.told(1), 31 & ~((2 << s) - 1));
            DUE.is("3: its THICK", x.told(10 * (1 + s)), -2);
            DUE.is("3: its FAT", x.told(100 * (1 + s) + s), -2);
            DUE.is("3: nothing is FRESH to be pulled", x.clean(s), -1);
            if (s < 4) {
                DUE.is("3: the next stays: THICK", x.told(10 * (2 + s)), 4001 + s);
                DUE.is("3: the next stays: FRESH", x.told(10 * (2 + s) + 3), s + 1);
            }
        }
        DUE.is("3: there anew", x.stone(2, 4000, 0, 0), 1);
        DUE.is("3: without FAT", x.told(302), 0);
        DUE.is("3: the others are not", x.smash(1), -1);
        // A STONE that was glued is no more, too.
        x.stone(0, 4000, 0, 0);
        DUE.is("3: glued", Due.shop(x, "a+c"), 1);
        DUE.is("3: it is no more", x.smash(2), -1);
        DUE.is("3: the upper one is", x.smash(0), 0);
    }

    /** "PICTURES 0 to 7 ...: DEEP (1 to 60 hundredths), FINE (1 to 9), PAY (0 to 999)". */
    private static void pictureNumbers() {
        StoneGhosts x = new StoneGhosts();
        DUE.range("4: PICTURE", 0, 7, -1, p -> x.picture(p, 30, 5, 10));
        DUE.range("4: DEEP", 1, 60, -2, v -> x.picture(0, v, 5, 10));
        DUE.is("4: DEEP stays", x.told(1000), 60);
        DUE.range("4: FINE", 1, 9, -2, v -> x.picture(0, 30, v, 10));
        DUE.is("4: FINE stays", x.told(1001), 9);
        DUE.range("4: PAY", 0, 999, -2, v -> x.picture(0, 30, 5, v));
        DUE.is("4: PAY stays", x.told(1002), 999);
        DUE.is("4: DEEP alone", x.picture(0, 61, 9, 999), -2);
        DUE.is("4: FINE alone", x.picture(0, 60, 10, 999), -2);
        DUE.is("4: PAY alone", x.picture(0, 60, 9, 1000), -2);
        // "(30 at first)", and "which DEEP it was", of each.
        StoneGhosts y = new StoneGhosts();
        for (int p = 0; p < 8; p++) {
            DUE.is("4: 30 at first, " + p, y.picture(p, p + 1, 5, 10), 30);
            DUE.is("4: then, " + p, y.picture(p, 60 - p, 5, 10), p + 1);
            DUE.is("4: a refused one is not kept, " + p, y.picture(p, 0, 5, 10), -2);
            DUE.is("4: then, " + p, y.picture(p, 1, 5, 10), 60 - p);
        }
    }

    /** One PICTURE is changed, no other, and no FAT that there is. */
    private static void pictureOnlyThat() {
        StoneGhosts x = new StoneGhosts();
        x.stone(0, 4000, 0, 10);
        Due.shop(x, "aD");
        x.picture(3, 11, 2, 3);
        for (int p = 0; p < 8; p++) {
            DUE.is("4: DEEP of " + p, x.told(1000 * (1 + p)), p == 3 ? 11 : 30);
            DUE.is("4: FINE of " + p, x.told(1000 * (1 + p) + 1), p == 3 ? 2 : 5);
            DUE.is("4: PAY of " + p, x.told(1000 * (1 + p) + 2), p == 3 ? 3 : 10);
        }
        DUE.is("4: FAT that there is", x.told(103), 30);
        DUE.is("4: drawn then", Due.shop(x, "ax1aD"), 2);
        DUE.is("4: DEEP from then on, though 27 were left", x.told(103), 11);
    }

    /** "FLAT (0 to 99; 20 at first). LEAST (0 to 9999; 3000 at first)." */
    private static void settings() {
        StoneGhosts x = new StoneGhosts();
        DUE.is("5: FLAT at first", x.set(0, 20), 20);
        DUE.is("5: LEAST at first", x.set(1, 3000), 3000);
        DUE.range("5: FLAT", 0, 99, -2, v -> x.set(0, v));
        DUE.is("5: FLAT stays", x.told(2), 99);
        DUE.is("5: LEAST is another", x.told(3), 3000);
        DUE.range("5: LEAST", 0, 9999, -2, v -> x.set(1, v));
        DUE.is("5: LEAST stays", x.told(3), 9999);
        DUE.is("5: FLAT is another", x.told(2), 99);
        DUE.range("5: which", 0, 1, -2, w -> x.set(w, 7));
        DUE.is("5: 100 is LEAST, but no FLAT", x.set(0, 100), -2);
        DUE.is("5: 100 is LEAST, but no FLAT", x.set(1, 100), 7);
        DUE.is("5: FLAT was", x.set(0, 0), 7);
    }

    /** "COLOURS 0 to 5, each with HAIRS (-9 to 9; 0 at first)"; told with 9 more. */
    private static void hairs() {
        StoneGhosts x = new StoneGhosts();
        for (int c = 0; c < 6; c++) DUE.is("6: 0 at first, " + c, x.hairs(c, c - 3), 9);
        for (int c = 0; c < 6; c++) DUE.is("6: then, " + c, x.hairs(c, -9), c + 6);
        for (int c = 0; c < 6; c++) DUE.is("6: -9 was, " + c, x.hairs(c, 9), 0);
        for (int c = 0; c < 6; c++) DUE.is("6: 9 was, " + c, x.hairs(c, 0), 18);
        DUE.range("6: COLOUR", 0, 5, -2, c -> x.hairs(c, 1));
        DUE.range("6: HAIRS", -9, 9, -2, v -> x.hairs(2, v));
        DUE.is("6: HAIRS stay", x.told(10002), 18);
    }

    /** "signs (codes 33 to 126)": each of them. */
    private static void signs() {
        StoneGhosts x = new StoneGhosts();
        DUE.range("7: sign", 33, 126, -2, x::say);
        DUE.is("7: those refused are not there", x.wipe(), 4);
        StoneGhosts y = new StoneGhosts();
        for (int sign = -5; sign < 300; sign++) {
            boolean is = sign >= 33 && sign <= 126;
            DUE.is("7: say(" + sign + ")", y.say(sign), is ? 1 : -2);
            if (is) y.wipe();
        }
    }

    /** "a PAD of up to 60 signs"; FULL behind that. */
    private static void sixtySigns() {
        StoneGhosts x = new StoneGhosts();
        x.stone(0, 9999, 0, 10);
        String text = "aw1".repeat(20);
        for (int i = 0; i < 60; i++) DUE.is("7: sign " + i, x.say(text.charAt(i)), i + 1);
        DUE.is("7: the 61st", x.say('a'), -4);
        DUE.is("7: the 61st", x.say('~'), -4);
        DUE.is("7: FULL, not more signs", x.told(0), 60);
        DUE.is("7: FULL, no FAULT by it", x.fault(), -6);
        DUE.is("7: FULL, all twenty ACTS", x.done(), 20);
        DUE.is("7: the PAD is empty then", x.say('a'), 1);
    }

    /** "Signs go: how many there were." Nothing else goes. */
    private static void wiped() {
        StoneGhosts x = new StoneGhosts();
        x.stone(0, 4000, 0, 10);
        x.seen(0, 0, false);
        for (int n = 0; n <= 20; n++) {
            for (int i = 0; i < n; i++) x.say('a');
            DUE.is("8: wipe of " + n, x.wipe(), n);
        }
        DUE.is("8: and again", x.wipe(), 0);
        DUE.is("8: told(0)", x.told(0), 0);
        DUE.is("8: fault()", x.fault(), -6);
        DUE.is("8: STONES stay", x.told(1), 1);
        DUE.is("8: SIGHTS stay", x.told(4), 1);
        // Signs from ahead of the wipe are not behind the new ones.
        Due.write(x, "aAa1");
        x.wipe();
        Due.write(x, "ao");
        DUE.is("8: more must come", x.fault(), 2);
    }

    private static boolean in(String signs, int sign) {
        return signs.indexOf(sign) >= 0;
    }

    private static void faultOf(String text, int want) {
        StoneGhosts x = new StoneGhosts();
        Due.write(x, text);
        DUE.is("9: fault() of " + text, x.fault(), want);
    }

    /** THE FAULT: "the place of the first sign that can not stand there": all signs, all places. */
    private static void everySignInEveryPlace() {
        String stones = "abcde", pictures = "ABCDEFGH", digits = "123456789";
        String[] ahead = {"", "bA", "c9", "do1", "ex9", "aw5", "b+a", "aAa1ao2", "a1".repeat(20), "aw1".repeat(19)};
        for (int sign = 33; sign <= 126; sign++) {
            String s = String.valueOf((char) sign);
            for (String h : ahead) {
                int n = h.length();
                faultOf(h + s, in(stones, sign) ? n + 1 : n);
                faultOf(h + "e" + s, in(pictures + digits, sign) ? -6 : in("oxw+", sign) ? n + 2 : n + 1);
                for (String verb : new String[] {"o", "x", "w"}) {
                    faultOf(h + "a" + verb + s, in(digits, sign) ? -6 : n + 2);
                }
                faultOf(h + "c+" + s, in(stones, sign) ? -6 : n + 2);
            }
        }
    }

    /** "or the number of signs, if more must come"; the first FAULT, not a later one. */
    private static void moreMustCome() {
        faultOf("", -6);
        for (int acts = 0; acts < 19; acts++) {
            String ahead = "a+b".repeat(acts);
            faultOf(ahead, -6);
            faultOf(ahead + "a", 3 * acts + 1);
            faultOf(ahead + "ax", 3 * acts + 2);
            faultOf(ahead + "a+", 3 * acts + 2);
            faultOf(ahead + "zz", 3 * acts);
            faultOf(ahead + "azz", 3 * acts + 1);
        }
        faultOf("aA".repeat(29) + "a", 59);
        faultOf("aA".repeat(29) + "aw", 60);
        faultOf("aA".repeat(29) + "a+", 60);
        faultOf("aA".repeat(29) + "aI", 59);
        faultOf("aA".repeat(29) + "AA", 58);
        faultOf("aA".repeat(30), -6);
        faultOf("ao9".repeat(19) + "ax", 59);
        faultOf("ao9".repeat(19) + "axx", 59);
        faultOf("ao9".repeat(20), -6);
    }

    /** "(a sign that is said changes what fault() tells)"; a refused one does not. */
    private static void faultIsToldAnew() {
        StoneGhosts x = new StoneGhosts();
        int[] want = {1, 2, -6, 4, -6, 6, 6, 6};
        String text = "ao1bBc!a";
        for (int i = 0; i < text.length(); i++) {
            x.say(text.charAt(i));
            DUE.is("9: behind " + (i + 1) + " signs", x.fault(), want[i]);
            x.say(32);
            DUE.is("9: behind a refused one", x.fault(), want[i]);
        }
        // THE FAULT does not ask whether there are such STONES, or whether the ACT can be.
        x.wipe();
        Due.write(x, "a+aa1");
        DUE.is("9: a SHOP of what can not be", x.fault(), -6);
        DUE.is("9: it can not be", x.judge(1), 1);
    }
}
