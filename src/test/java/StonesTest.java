/** Promises 1 to 9: a new object, stones, pictures, settings, the pad. */
public final class StonesTest {
    private static final Due DUE = new Due();

    public static void main(String[] args) {
        newObject();
        stones();
        smash();
        pictures();
        settings();
        hairs();
        sayAndWipe();
        fault();
        DUE.end();
    }

    private static void newObject() {
        StoneGhosts x = new StoneGhosts();
        DUE.is("1: told(1)", x.told(1), 0);
        DUE.is("1: told(0)", x.told(0), 0);
        DUE.is("1: FLAT", x.told(2), 20);
        DUE.is("1: LEAST", x.told(3), 3000);
        DUE.is("1: SIGHTS", x.told(4), 0);
        for (int s = 0; s < 5; s++) {
            DUE.is("1: THICK of " + s, x.told(10 * (1 + s)), -2);
            DUE.is("1: FAT on " + s, x.told(100 * (1 + s)), -2);
        }
        for (int p = 0; p < 8; p++) {
            DUE.is("1: DEEP of " + p, x.told(1000 * (1 + p)), 30);
            DUE.is("1: FINE of " + p, x.told(1000 * (1 + p) + 1), 5);
            DUE.is("1: PAY of " + p, x.told(1000 * (1 + p) + 2), 10);
        }
        for (int c = 0; c < 6; c++) {
            DUE.is("1: HAIRS of " + c, x.told(10000 + c), 9);
        }
    }

    private static void stones() {
        StoneGhosts x = new StoneGhosts();
        DUE.is("2: least", x.stone(0, 0, 0, 0), 1);
        DUE.is("2: most", x.stone(4, 9999, 99, 20), 2);
        DUE.is("2: again", x.stone(4, 9998, 98, 19), 2);
        DUE.is("2: THICK", x.told(50), 9998);
        DUE.is("2: HOLLOW", x.told(51), 98);
        DUE.is("2: DAMP", x.told(52), 19);
        DUE.is("2: FRESH", x.told(53), -6);
        DUE.is("2: pulls", x.told(54), 0);
        DUE.is("2: number 5", x.stone(5, 1, 1, 1), -1);
        DUE.is("2: number -1", x.stone(-1, 1, 1, 1), -1);
        DUE.is("2: UNKNOWN ahead of OUTSIDE", x.stone(5, -1, 1, 1), -1);
        int[][] bad = {{-1, 0, 0}, {10000, 0, 0}, {0, -1, 0}, {0, 100, 0}, {0, 0, -1}, {0, 0, 21}};
        for (int[] b : bad) {
            DUE.is("2: outside", x.stone(4, b[0], b[1], b[2]), -2);
        }
        DUE.is("2: refused, unchanged", x.told(50), 9998);
        DUE.is("2: STONES", x.told(1), 17);
        x.stone(1, 4000, 0, 10);
        DUE.is("2: drawn and pulled", Due.shop(x, "bAb5"), 2);
        DUE.is("2: FAT", x.told(200), 30);
        DUE.is("2: anew", x.stone(1, 4000, 0, 10), 3);
        DUE.is("2: without FAT", x.told(200), 0);
        DUE.is("2: nothing FRESH", x.told(23), -6);
        DUE.is("2: no pulls", x.told(24), 0);
    }

    private static void smash() {
        StoneGhosts x = new StoneGhosts();
        DUE.is("3: none yet", x.smash(0), -1);
        x.stone(0, 4000, 0, 10);
        x.stone(2, 4000, 0, 10);
        Due.shop(x, "aA");
        DUE.is("3: none of that number", x.smash(1), -1);
        DUE.is("3: number 5", x.smash(5), -1);
        DUE.is("3: number -1", x.smash(-1), -1);
        DUE.is("3: one is left", x.smash(0), 1);
        DUE.is("3: it is no more", x.smash(0), -1);
        DUE.is("3: STONES", x.told(1), 4);
        DUE.is("3: none is left", x.smash(2), 0);
        x.stone(0, 4000, 0, 10);
        DUE.is("3: anew without FAT", x.told(100), 0);
        DUE.is("3: anew not FRESH", x.told(13), -6);
    }

    private static void pictures() {
        StoneGhosts x = new StoneGhosts();
        DUE.is("4: first", x.picture(7, 1, 1, 0), 30);
        DUE.is("4: then", x.picture(7, 60, 9, 999), 1);
        DUE.is("4: then", x.picture(7, 59, 8, 998), 60);
        DUE.is("4: DEEP", x.told(8000), 59);
        DUE.is("4: FINE", x.told(8001), 8);
        DUE.is("4: PAY", x.told(8002), 998);
        DUE.is("4: number 8", x.picture(8, 1, 1, 1), -1);
        DUE.is("4: number -1", x.picture(-1, 1, 1, 1), -1);
        DUE.is("4: UNKNOWN ahead of OUTSIDE", x.picture(8, 0, 0, -1), -1);
        int[][] bad = {{0, 1, 1}, {61, 1, 1}, {1, 0, 1}, {1, 10, 1}, {1, 1, -1}, {1, 1, 1000}};
        for (int[] b : bad) {
            DUE.is("4: outside", x.picture(7, b[0], b[1], b[2]), -2);
        }
        DUE.is("4: refused, unchanged", x.told(8000), 59);
        // FAT that is there stays as it was drawn; WEAR is by FINE as it is.
        x.stone(0, 5000, 0, 10);
        Due.shop(x, "aA");
        x.picture(0, 10, 9, 0);
        DUE.is("4: FAT stays", x.told(100), 30);
        Due.shop(x, "a9a1");
        DUE.is("4: WEAR by the new FINE", x.told(100), 26);
    }

    private static void settings() {
        StoneGhosts x = new StoneGhosts();
        DUE.is("5: FLAT", x.set(0, 99), 20);
        DUE.is("5: FLAT", x.set(0, 0), 99);
        DUE.is("5: FLAT was", x.set(0, 5), 0);
        DUE.is("5: LEAST", x.set(1, 9999), 3000);
        DUE.is("5: LEAST", x.set(1, 0), 9999);
        DUE.is("5: LEAST was", x.set(1, 7), 0);
        DUE.is("5: which", x.set(2, 1), -2);
        DUE.is("5: which", x.set(-1, 1), -2);
        DUE.is("5: FLAT 100", x.set(0, 100), -2);
        DUE.is("5: FLAT -1", x.set(0, -1), -2);
        DUE.is("5: LEAST 10000", x.set(1, 10000), -2);
        DUE.is("5: LEAST -1", x.set(1, -1), -2);
        DUE.is("5: told FLAT", x.told(2), 5);
        DUE.is("5: told LEAST", x.told(3), 7);
    }

    private static void hairs() {
        StoneGhosts x = new StoneGhosts();
        DUE.is("6: first", x.hairs(0, -9), 9);
        DUE.is("6: was -9", x.hairs(0, 9), 0);
        DUE.is("6: was 9", x.hairs(0, 3), 18);
        DUE.is("6: colour 5", x.hairs(5, 1), 9);
        DUE.is("6: colour 6", x.hairs(6, 1), -2);
        DUE.is("6: colour -1", x.hairs(-1, 1), -2);
        DUE.is("6: hairs 10", x.hairs(0, 10), -2);
        DUE.is("6: hairs -10", x.hairs(0, -10), -2);
        DUE.is("6: told", x.told(10000), 12);
        DUE.is("6: told", x.told(10005), 10);
    }

    private static void sayAndWipe() {
        StoneGhosts x = new StoneGhosts();
        DUE.is("8: empty", x.wipe(), 0);
        DUE.is("7: 32", x.say(32), -2);
        DUE.is("7: 127", x.say(127), -2);
        DUE.is("7: 33", x.say(33), 1);
        DUE.is("7: 126", x.say(126), 2);
        DUE.is("8: two", x.wipe(), 2);
        DUE.is("8: gone", x.told(0), 0);
        for (int i = 1; i <= 60; i++) {
            DUE.is("7: sign " + i, x.say('a'), i);
        }
        DUE.is("7: full", x.say('a'), -4);
        DUE.is("7: OUTSIDE ahead of FULL", x.say(0), -2);
        DUE.is("7: signs", x.told(0), 60);
        DUE.is("8: sixty", x.wipe(), 60);
        DUE.is("8: none", x.wipe(), 0);
    }

    private static void faultOf(String text, int want) {
        StoneGhosts x = new StoneGhosts();
        Due.write(x, text);
        DUE.is("9: fault() of " + text, x.fault(), want);
        DUE.is("9: told(0) of " + text, x.told(0), text.length());
    }

    private static void fault() {
        String[] good = {"", "aA", "eH", "ao1", "ex9", "cw5", "b1", "b9", "a+a", "e+a",
            "aAa1ax2b+cdw9", "a1".repeat(30), "ao1".repeat(20)};
        for (String text : good) {
            faultOf(text, -6);
        }
        faultOf("a", 1);
        faultOf("ao", 2);
        faultOf("a+", 2);
        faultOf("aAb", 3);
        faultOf("aAbx", 4);
        faultOf("f", 0);
        faultOf("A", 0);
        faultOf("1", 0);
        faultOf("aI", 1);
        faultOf("a0", 1);
        faultOf("aa", 1);
        faultOf("ay1", 1);
        faultOf("ao0", 2);
        faultOf("aoo", 2);
        faultOf("axA", 2);
        faultOf("aw+", 2);
        faultOf("a+f", 2);
        faultOf("a+A", 2);
        faultOf("a+1", 2);
        faultOf("a12", 2);
        faultOf("aABz", 2);
        faultOf("aAb!", 3);
        faultOf("a1".repeat(29) + "aw", 60);
        faultOf("a1".repeat(29) + "b~", 59);
    }
}
