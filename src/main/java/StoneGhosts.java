/**
 * Lithographers' stones that remember: what is ground off not deep enough comes back
 * in later pulls. The promises are numbered in the document; README.md tells the use.
 */
public final class StoneGhosts {
    public static final int UNKNOWN = -1, OUTSIDE = -2, STATE = -3, FULL = -4, NO = -5, NONE = -6;
    public static final long GONE = -1000000000000000000L;

    private static final int STONES = 5, PICTURES = 8, COLOURS = 6, IMAGES = 2;
    /** How many sets of STONES there are. */
    private static final int STONE_SETS = 1 << STONES;
    private static final int MOST_SIGNS = 60, MOST_SIGHTS = 8;
    private static final int MOST_THICK = 9999, MOST_HOLLOW = 99, MOST_DAMP = 20;
    private static final int MOST_DEEP = 60, MOST_FINE = 9, MOST_PAY = 999;
    private static final int MOST_HAIRS = 9, MOST_PULLS = 999, MOST_MINUTES = 20;
    private static final int MOST_LIFE = 99, MOST_PRESS = 150, MOST_PRESSED = 9;
    private static final int MOST_SEED = 9999, MOST_YEAR = 99;

    /** What a minute of grinding takes of THICK and of each FAT. */
    private static final int BITE = 3;
    private static final int FILLED_AT = 3, GREY_AT = 15;

    private static final int DRAW = 0, CIRCLES = 1, EIGHTS = 2, WATER = 3, PULL = 4, GLUE = 5;
    private static final int GOOD = 0, FILLED = 1, GREY = 2, HAUNTED = 3, WORN = 4, ALL_KINDS = 5;
    private static final int NO_STONE = 1, SAME_STONE = 2, IS_FRESH = 3, NOT_FRESH = 4,
        TOO_HOLLOW = 5, TOO_THIN = 6;

    private final Room room;
    private final Pad pad;
    private final Trial trial;
    private final OrderTable orderTable;
    private final ColourTable colourTable;
    private final Room[] images;

    public StoneGhosts() {
        room = new Room();
        pad = new Pad();
        trial = new Trial();
        orderTable = new OrderTable();
        colourTable = new ColourTable();
        images = new Room[IMAGES];
    }

    // ---- 1 stones, pictures

    public int stone(int stone, int thick, int hollow, int damp) {
        if (!inside(stone, 0, STONES - 1)) {
            return UNKNOWN;
        }
        if (!inside(thick, 0, MOST_THICK) || !inside(hollow, 0, MOST_HOLLOW)
            || !inside(damp, 0, MOST_DAMP)) {
            return OUTSIDE;
        }
        room.shelf.put(stone, thick, hollow, damp);
        return room.shelf.count();
    }

    public int smash(int stone) {
        if (!room.shelf.has(stone)) {
            return UNKNOWN;
        }
        room.shelf.take(stone);
        return room.shelf.count();
    }

    public int picture(int picture, int deep, int fine, int pay) {
        if (!inside(picture, 0, PICTURES - 1)) {
            return UNKNOWN;
        }
        if (!inside(deep, 1, MOST_DEEP) || !inside(fine, 1, MOST_FINE)
            || !inside(pay, 0, MOST_PAY)) {
            return OUTSIDE;
        }
        int was = room.rules.deep[picture];
        room.rules.deep[picture] = deep;
        room.rules.fine[picture] = fine;
        room.rules.pay[picture] = pay;
        return was;
    }

    public int set(int which, int v) {
        if (which == 0 && inside(v, 0, MOST_HOLLOW)) {
            int was = room.rules.flat;
            room.rules.flat = v;
            return was;
        }
        if (which == 1 && inside(v, 0, MOST_THICK)) {
            int was = room.rules.least;
            room.rules.least = v;
            return was;
        }
        return OUTSIDE;
    }

    public int hairs(int colour, int v) {
        if (!inside(colour, 0, COLOURS - 1) || !inside(v, -MOST_HAIRS, MOST_HAIRS)) {
            return OUTSIDE;
        }
        int was = room.rules.hair[colour];
        room.rules.hair[colour] = v;
        return was + MOST_HAIRS;
    }

    public int say(int sign) {
        if (!inside(sign, 33, 126)) {
            return OUTSIDE;
        }
        return pad.write(sign) ? pad.size : FULL;
    }

    public int wipe() {
        int were = pad.size;
        pad.size = 0;
        return were;
    }

    public int fault() {
        return pad.firstFault();
    }

    // ---- 2 shops

    public int judge(int what) {
        if (!inside(what, 0, 2)) {
            return OUTSIDE;
        }
        int refusal = tryShop();
        if (refusal == NO) {
            return NO;
        }
        if (what == 0) {
            return trial.stoppedAt;
        }
        if (what == 1) {
            return trial.why;
        }
        return refusal == 0 ? trial.tally.pulled : refusal;
    }

    public int kinds(int kind) {
        if (!inside(kind, 0, ALL_KINDS - 1)) {
            return OUTSIDE;
        }
        int refusal = tryShop();
        return refusal == 0 ? trial.tally.ofKind[kind] : refusal;
    }

    public int behind(int stone, int what) {
        if (!room.shelf.has(stone)) {
            return UNKNOWN;
        }
        if (!inside(what, 0, 4)) {
            return OUTSIDE;
        }
        int refusal = tryShop();
        if (refusal != 0) {
            return refusal;
        }
        return trial.shelf.has(stone) ? trial.shelf.tell(stone, what) : UNKNOWN;
    }

    public int fat(int stone, int picture) {
        if (!room.shelf.has(stone) || !inside(picture, 0, PICTURES - 1)) {
            return UNKNOWN;
        }
        int refusal = tryShop();
        if (refusal != 0) {
            return refusal;
        }
        return trial.shelf.has(stone) ? trial.shelf.fatOf(stone, picture) : UNKNOWN;
    }

    public int sky(int what) {
        if (!inside(what, 0, 1)) {
            return OUTSIDE;
        }
        int refusal = tryShop();
        if (refusal != 0) {
            return refusal;
        }
        return what == 0 ? trial.tally.firstHaunted : trial.tally.haunter;
    }

    public int done() {
        int refusal = tryShop();
        if (refusal != 0) {
            return refusal;
        }
        room.shelf.copyFrom(trial.shelf);
        pad.size = 0;
        return trial.acts;
    }

    /** The SHOP is played on a copy of the stones; NO, STATE, or 0 if all of it can be. */
    private int tryShop() {
        if (pad.firstFault() != NONE) {
            return NO;
        }
        trial.begin(room);
        trial.playPad(pad);
        return trial.stoppedAt == NONE ? 0 : STATE;
    }

    // ---- 3 pulls, orders, colours

    public int clean(int stone) {
        if (!room.shelf.has(stone)) {
            return UNKNOWN;
        }
        int fresh = room.shelf.fresh[stone];
        if (fresh == NONE) {
            return STATE;
        }
        return pullsAhead(room.shelf.fatOf(stone, fresh), room.shelf.ghostFat(stone, fresh),
            room.rules.wear(fresh), room.shelf.pulls[stone]);
    }

    public int grind(int stone, int picture, int m) {
        if (!room.shelf.has(stone) || !inside(picture, 0, PICTURES - 1)) {
            return UNKNOWN;
        }
        if (!inside(m, 0, MOST_PULLS)) {
            return OUTSIDE;
        }
        // MOST_MINUTES take all FAT there can be: more of them change nothing.
        for (int minutes = 0; minutes <= MOST_MINUTES; minutes++) {
            if (room.shelf.thick[stone] - BITE * minutes < room.rules.least) {
                return NONE;
            }
            if (room.wouldLast(stone, picture, minutes, m)) {
                return minutes;
            }
        }
        return NONE;
    }

    public int lives(int stone, int m) {
        if (!room.shelf.has(stone)) {
            return UNKNOWN;
        }
        if (!inside(m, 1, MOST_LIFE)) {
            return OUTSIDE;
        }
        int spare = room.shelf.thick[stone] - room.rules.least;
        return spare < 0 ? 0 : spare / (BITE * m);
    }

    public int orders(int set, int m, int picture) {
        if (picture != -1 && (!inside(picture, 0, PICTURES - 1) || !hasBit(set, picture))) {
            return UNKNOWN;
        }
        if (!inside(set, 0, (1 << PICTURES) - 1) || !inside(m, 0, MOST_PULLS)) {
            return OUTSIDE;
        }
        orderTable.fill(room, set, m);
        return picture == -1 ? orderTable.mostPay() : orderTable.stoneFor(picture);
    }

    public int colours(int k, int what) {
        if (!inside(k, 1, COLOURS) || !inside(what, 0, 1)) {
            return OUTSIDE;
        }
        colourTable.fill(room.rules.hair, k);
        return what == 0 ? colourTable.least[0] : colourTable.firstBest(room.rules.hair, 0);
    }

    // ---- 4 cracks, ghosts

    public long crack(int stone, int v, int m, int what, int part) {
        if (!room.shelf.has(stone)) {
            return GONE + UNKNOWN;
        }
        if (!inside(v, 0, MOST_PRESS) || !inside(m, 0, MOST_PRESSED)
            || !inside(what, 0, 1) || !inside(part, 0, 1)) {
            return GONE + OUTSIDE;
        }
        int tenths = Math.max(0, Math.min(10, v - room.shelf.thick[stone] / 100));
        long whole = 1;
        long power = 1;
        long sum = 1;
        for (int pull = 0; pull < m; pull++) {
            whole *= 10;
            power *= 10 - tenths;
            // The mean is the sum of the chances that it still holds ahead of each pull.
            sum = sum * 10 + power;
        }
        return lowestTerms(what == 0 ? power : sum, whole, part);
    }

    public int seen(int picture, int n, boolean shows) {
        if (!inside(picture, 0, PICTURES - 1)) {
            return UNKNOWN;
        }
        if (!inside(n, 0, MOST_PULLS)) {
            return OUTSIDE;
        }
        return room.sights.add(picture, n, shows) ? room.sights.size : FULL;
    }

    public int forget() {
        int were = room.sights.size;
        room.sights.size = 0;
        return were;
    }

    public int whose(int i) {
        int found = 0;
        for (int first = 0; first < PICTURES; first++) {
            int more = room.countTwos(first);
            if (i >= found && i < found + more) {
                return 100 * first + room.fewestMinutes(first) + i - found;
            }
            found += more;
        }
        return i == -1 ? found : NONE;
    }

    public int suspects() {
        int bits = 0;
        for (int first = 0; first < PICTURES; first++) {
            if (room.countTwos(first) > 0) {
                bits |= 1 << first;
            }
        }
        return bits;
    }

    public int next(int n, int what) {
        if (!inside(n, 0, MOST_PULLS) || !inside(what, 0, 1)) {
            return OUTSIDE;
        }
        int best = NONE;
        int fewest = Integer.MAX_VALUE;
        for (int drawn = 0; drawn < PICTURES; drawn++) {
            int left = room.mostLeft(drawn, n);
            if (left < fewest) {
                fewest = left;
                best = drawn;
            }
        }
        if (fewest == 0) {
            return NONE;
        }
        return what == 0 ? best : fewest;
    }

    public int year(int seed, int m, int what) {
        if (!inside(seed, 0, MOST_SEED) || !inside(m, 1, MOST_YEAR) || !inside(what, 0, 2)) {
            return OUTSIDE;
        }
        trial.begin(room);
        trial.playYear(seed, m);
        if (what == 0) {
            return trial.tally.pulled;
        }
        return what == 1 ? trial.tally.ofKind[HAUNTED] : trial.shelf.countFresh();
    }

    public int image(int k) {
        if (!inside(k, 0, IMAGES - 1)) {
            return OUTSIDE;
        }
        Room kept = images[k];
        if (kept == null) {
            kept = new Room();
            images[k] = kept;
        }
        kept.copyFrom(room);
        return 1;
    }

    public int restore(int k) {
        if (!inside(k, 0, IMAGES - 1)) {
            return OUTSIDE;
        }
        Room kept = images[k];
        if (kept == null) {
            return STATE;
        }
        room.copyFrom(kept);
        return 1;
    }

    public int told(int what) {
        if (inside(what, 0, 9)) {
            return tellWhole(what);
        }
        if (inside(what, 10, 99)) {
            int stone = what / 10 - 1;
            boolean known = room.shelf.has(stone) && what % 10 <= 4;
            return known ? room.shelf.tell(stone, what % 10) : OUTSIDE;
        }
        if (inside(what, 100, 999)) {
            int stone = what / 100 - 1;
            boolean known = room.shelf.has(stone) && what % 100 < PICTURES;
            return known ? room.shelf.fatOf(stone, what % 100) : OUTSIDE;
        }
        if (inside(what, 1000, 9999)) {
            return room.rules.tell(what / 1000 - 1, what % 1000);
        }
        if (inside(what, 10000, 10000 + COLOURS - 1)) {
            return room.rules.hair[what - 10000] + MOST_HAIRS;
        }
        return OUTSIDE;
    }

    private int tellWhole(int what) {
        switch (what) {
            case 0: return pad.size;
            case 1: return room.shelf.there;
            case 2: return room.rules.flat;
            case 3: return room.rules.least;
            case 4: return room.sights.size;
            default: return OUTSIDE;
        }
    }

    // ---- what several parts need

    private static boolean inside(int v, int low, int high) {
        return v >= low && v <= high;
    }

    private static boolean hasBit(int bits, int i) {
        return (bits >> i & 1) == 1;
    }

    /** Pulls ahead of the first at which a ghost of that FAT is more, or the own FAT is 0. */
    private static int pullsAhead(int fat, int ghost, int wear, int pulls) {
        int needed = Math.max(1, ghost);
        if (fat < needed) {
            return 0;
        }
        int wears = (fat - needed) / Math.max(1, wear) + 1;
        return (pulls / 10 + wears) * 10 - pulls - 1;
    }

    private static long lowestTerms(long upper, long lower, int part) {
        long a = upper;
        long b = lower;
        // Euclid needs fewer than a hundred steps for any two longs.
        for (int step = 0; step < 100 && b != 0; step++) {
            long rest = a % b;
            a = b;
            b = rest;
        }
        long common = Math.max(1, a);
        return (part == 0 ? upper : lower) / common;
    }

    /** All that an IMAGE keeps. */
    static final class Room {
        final Shelf shelf = new Shelf();
        final Rules rules = new Rules();
        final Sights sights = new Sights();

        void copyFrom(Room other) {
            shelf.copyFrom(other.shelf);
            rules.copyFrom(other.rules);
            sights.copyFrom(other.sights);
        }

        /** Whether a PICTURE, drawn behind so many minutes of grinding, lasts m pulls. */
        boolean wouldLast(int stone, int picture, int minutes, int m) {
            int ghost = Math.max(0, shelf.ghostFat(stone, picture) - BITE * minutes);
            return pullsAhead(rules.deepOf(picture), ghost, rules.wear(picture), 0) >= m;
        }

        /** Whether a PICTURE may be drawn on a STONE by ORDERS. */
        boolean takesOrders(int stone) {
            return shelf.has(stone) && shelf.hollow[stone] <= rules.flat
                && shelf.thick[stone] >= rules.least;
        }

        /** WHOSE, of one first PICTURE: how many; SIGHTS leave minutes without a gap. */
        int countTwos(int first) {
            return Math.max(0, mostMinutes(first) - fewestMinutes(first) + 1);
        }

        /** Where it did not show, the first PICTURE was ground longer than it shows. */
        int fewestMinutes(int first) {
            int fewest = 1;
            for (int i = 0; i < sights.size && i < MOST_SIGHTS; i++) {
                if (!hasBit(sights.shown, i)) {
                    int showing = rules.minutesShowing(first, sights.drawn[i], sights.pull[i]);
                    fewest = Math.max(fewest, showing + 1);
                }
            }
            return fewest;
        }

        /** Where it showed, the first PICTURE was ground no longer than it shows. */
        int mostMinutes(int first) {
            int most = MOST_MINUTES;
            for (int i = 0; i < sights.size && i < MOST_SIGHTS; i++) {
                if (hasBit(sights.shown, i)) {
                    int showing = rules.minutesShowing(first, sights.drawn[i], sights.pull[i]);
                    most = Math.min(most, showing);
                }
            }
            return most;
        }

        /** How many twos of WHOSE are left at the most by a SIGHT of that PICTURE and pull. */
        int mostLeft(int drawn, int pull) {
            int all = 0;
            int showing = 0;
            for (int first = 0; first < PICTURES; first++) {
                int last = Math.min(mostMinutes(first), rules.minutesShowing(first, drawn, pull));
                all += countTwos(first);
                showing += Math.max(0, last - fewestMinutes(first) + 1);
            }
            return Math.max(showing, all - showing);
        }
    }

    /** The STONES. Every method leaves alone a STONE that there is not. */
    static final class Shelf {
        int there;
        final int[] thick = new int[STONES];
        final int[] hollow = new int[STONES];
        final int[] damp = new int[STONES];
        final int[] fresh = new int[STONES];
        final int[] pulls = new int[STONES];
        final int[] fats = new int[STONES * PICTURES];

        boolean has(int stone) {
            return stone >= 0 && stone < STONES && (there >> stone & 1) == 1;
        }

        int count() {
            return Integer.bitCount(there);
        }

        int countFresh() {
            int found = 0;
            for (int stone = 0; stone < STONES; stone++) {
                if (has(stone) && fresh[stone] != NONE) {
                    found++;
                }
            }
            return found;
        }

        void put(int stone, int newThick, int newHollow, int newDamp) {
            if (!inside(stone, 0, STONES - 1)) {
                return;
            }
            there |= 1 << stone;
            thick[stone] = newThick;
            hollow[stone] = newHollow;
            damp[stone] = newDamp;
            fresh[stone] = NONE;
            pulls[stone] = 0;
            for (int picture = 0; picture < PICTURES; picture++) {
                fats[stone * PICTURES + picture] = 0;
            }
        }

        void take(int stone) {
            if (has(stone)) {
                there &= ~(1 << stone);
            }
        }

        void copyFrom(Shelf other) {
            there = other.there;
            System.arraycopy(other.thick, 0, thick, 0, STONES);
            System.arraycopy(other.hollow, 0, hollow, 0, STONES);
            System.arraycopy(other.damp, 0, damp, 0, STONES);
            System.arraycopy(other.fresh, 0, fresh, 0, STONES);
            System.arraycopy(other.pulls, 0, pulls, 0, STONES);
            System.arraycopy(other.fats, 0, fats, 0, STONES * PICTURES);
        }

        int tell(int stone, int what) {
            if (!has(stone)) {
                return UNKNOWN;
            }
            switch (what) {
                case 0: return thick[stone];
                case 1: return hollow[stone];
                case 2: return damp[stone];
                case 3: return fresh[stone];
                case 4: return pulls[stone];
                default: return OUTSIDE;
            }
        }

        int fatOf(int stone, int picture) {
            if (!has(stone) || !inside(picture, 0, PICTURES - 1)) {
                return 0;
            }
            return fats[stone * PICTURES + picture];
        }

        /** The most FAT on a STONE, but for the PICTURE that is drawn there. */
        int ghostFat(int stone, int drawn) {
            if (stone < 0 || stone >= STONES) {
                return 0;
            }
            int most = 0;
            for (int picture = 0; picture < PICTURES; picture++) {
                int left = fats[stone * PICTURES + picture];
                if (picture != drawn && left > most) {
                    most = left;
                }
            }
            return most;
        }

        /** The least PICTURE of so much FAT. */
        int greatestGhost(int stone, int drawn) {
            if (stone < 0 || stone >= STONES) {
                return NONE;
            }
            int most = ghostFat(stone, drawn);
            for (int picture = 0; picture < PICTURES; picture++) {
                if (picture != drawn && fats[stone * PICTURES + picture] == most) {
                    return picture;
                }
            }
            return NONE;
        }

        void draw(int stone, int picture, int deep) {
            if (!has(stone) || !inside(picture, 0, PICTURES - 1)) {
                return;
            }
            fats[stone * PICTURES + picture] = deep;
            fresh[stone] = picture;
            pulls[stone] = 0;
        }

        void grindOff(int stone, int minutes, boolean inCircles) {
            if (!has(stone)) {
                return;
            }
            thick[stone] -= BITE * minutes;
            hollow[stone] = inCircles
                ? Math.min(MOST_HOLLOW, hollow[stone] + 2 * minutes)
                : Math.max(0, hollow[stone] - minutes);
            for (int picture = 0; picture < PICTURES; picture++) {
                int at = stone * PICTURES + picture;
                fats[at] = Math.max(0, fats[at] - BITE * minutes);
            }
            fresh[stone] = NONE;
            pulls[stone] = 0;
        }

        void wet(int stone, int more) {
            if (has(stone)) {
                damp[stone] = Math.min(MOST_DAMP, damp[stone] + more);
            }
        }

        void glueBelow(int stone, int lower) {
            if (has(stone) && has(lower) && stone != lower) {
                thick[stone] = Math.min(MOST_THICK, thick[stone] + thick[lower]);
                take(lower);
            }
        }

        /** One pull of what is FRESH; which kind it is. */
        int pullOnce(int stone, int wear) {
            if (!has(stone) || !inside(fresh[stone], 0, PICTURES - 1)) {
                return NONE;
            }
            int ahead = damp[stone];
            int at = stone * PICTURES + fresh[stone];
            damp[stone] = Math.max(0, ahead - 1);
            pulls[stone]++;
            if (pulls[stone] % 10 == 0) {
                fats[at] = Math.max(0, fats[at] - wear);
            }
            if (ahead <= FILLED_AT) {
                return FILLED;
            }
            if (ahead >= GREY_AT) {
                return GREY;
            }
            if (ghostFat(stone, fresh[stone]) > fats[at]) {
                return HAUNTED;
            }
            return fats[at] == 0 ? WORN : GOOD;
        }
    }

    /** What holds for all STONES: the PICTURES, FLAT, LEAST, and HAIRS of the COLOURS. */
    static final class Rules {
        int flat = 20;
        int least = 3000;
        final int[] deep = new int[PICTURES];
        final int[] fine = new int[PICTURES];
        final int[] pay = new int[PICTURES];
        final int[] hair = new int[COLOURS];

        Rules() {
            for (int picture = 0; picture < PICTURES; picture++) {
                deep[picture] = 30;
                fine[picture] = 5;
                pay[picture] = 10;
            }
        }

        void copyFrom(Rules other) {
            flat = other.flat;
            least = other.least;
            System.arraycopy(other.deep, 0, deep, 0, PICTURES);
            System.arraycopy(other.fine, 0, fine, 0, PICTURES);
            System.arraycopy(other.pay, 0, pay, 0, PICTURES);
            System.arraycopy(other.hair, 0, hair, 0, COLOURS);
        }

        int tell(int picture, int what) {
            if (!inside(picture, 0, PICTURES - 1)) {
                return OUTSIDE;
            }
            switch (what) {
                case 0: return deep[picture];
                case 1: return fine[picture];
                case 2: return pay[picture];
                default: return OUTSIDE;
            }
        }

        int deepOf(int picture) {
            return inside(picture, 0, PICTURES - 1) ? deep[picture] : 0;
        }

        int payOf(int picture) {
            return inside(picture, 0, PICTURES - 1) ? pay[picture] : 0;
        }

        int wear(int picture) {
            return inside(picture, 0, PICTURES - 1) ? fine[picture] / 3 + 1 : 1;
        }

        /** For how many minutes one may grind so that the first PICTURE is still more then. */
        int minutesShowing(int first, int drawn, int pull) {
            int worn = Math.max(0, deepOf(drawn) - wear(drawn) * (pull / 10));
            int more = deepOf(first) - worn;
            return first == drawn || more < 1 ? 0 : (more - 1) / BITE;
        }
    }

    /** The SIGHTS: which PICTURE was drawn, on which pull, and, as bits, whether one showed. */
    static final class Sights {
        int size;
        int shown;
        final int[] drawn = new int[MOST_SIGHTS];
        final int[] pull = new int[MOST_SIGHTS];

        boolean add(int picture, int n, boolean shows) {
            if (!inside(size, 0, MOST_SIGHTS - 1)) {
                return false;
            }
            drawn[size] = picture;
            pull[size] = n;
            shown = shows ? shown | 1 << size : shown & ~(1 << size);
            size++;
            return true;
        }

        void copyFrom(Sights other) {
            size = other.size;
            shown = other.shown;
            System.arraycopy(other.drawn, 0, drawn, 0, MOST_SIGHTS);
            System.arraycopy(other.pull, 0, pull, 0, MOST_SIGHTS);
        }
    }

    /** An ACT; amount is so many minutes, pulls or water, or which PICTURE, or which lower STONE. */
    static final class Act {
        int stone;
        int kind;
        int amount;

        void become(int newStone, int newKind, int newAmount) {
            stone = newStone;
            kind = newKind;
            amount = newAmount;
        }
    }

    /** The PAD and its grammar. */
    static final class Pad {
        int size;
        final int[] signs = new int[MOST_SIGNS];

        boolean write(int sign) {
            if (!inside(size, 0, MOST_SIGNS - 1)) {
                return false;
            }
            signs[size] = sign;
            size++;
            return true;
        }

        /** The sign at a place; 0, which can stand nowhere, behind the last. */
        int signAt(int place) {
            return place >= 0 && place < size && place < MOST_SIGNS ? signs[place] : 0;
        }

        int firstFault() {
            for (int start = 0; start < size; start += hasThird(start) ? 3 : 2) {
                if (!isStone(signAt(start))) {
                    return start;
                }
                int verb = signAt(start + 1);
                if (!isPicture(verb) && !isDigit(verb) && !takesDigit(verb) && verb != '+') {
                    return start + 1;
                }
                int third = signAt(start + 2);
                if (takesDigit(verb) && !isDigit(third) || verb == '+' && !isStone(third)) {
                    return start + 2;
                }
            }
            return NONE;
        }

        /** Whether the ACT that begins there is of three signs; else it is of two. */
        boolean hasThird(int start) {
            int verb = signAt(start + 1);
            return takesDigit(verb) || verb == '+';
        }

        /** Reads the ACT that begins there into act; only for a PAD without FAULT. */
        void readAct(int start, Act act) {
            int stone = signAt(start) - 'a';
            int verb = signAt(start + 1);
            int third = signAt(start + 2);
            if (isPicture(verb)) {
                act.become(stone, DRAW, verb - 'A');
            } else if (isDigit(verb)) {
                act.become(stone, PULL, verb - '0');
            } else if (verb == '+') {
                act.become(stone, GLUE, third - 'a');
            } else if (verb == 'w') {
                act.become(stone, WATER, third - '0');
            } else {
                act.become(stone, verb == 'o' ? CIRCLES : EIGHTS, third - '0');
            }
        }

        static boolean isStone(int sign) {
            return inside(sign, 'a', 'e');
        }

        static boolean isPicture(int sign) {
            return inside(sign, 'A', 'H');
        }

        static boolean isDigit(int sign) {
            return inside(sign, '1', '9');
        }

        static boolean takesDigit(int sign) {
            return sign == 'o' || sign == 'x' || sign == 'w';
        }
    }

    /** What came of the pulls. */
    static final class Tally {
        int pulled;
        int firstHaunted;
        int haunter;
        final int[] ofKind = new int[ALL_KINDS];

        void clear() {
            pulled = 0;
            firstHaunted = NONE;
            haunter = NONE;
            for (int kind = 0; kind < ALL_KINDS; kind++) {
                ofKind[kind] = 0;
            }
        }

        void add(int kind, int ghost) {
            if (!inside(kind, 0, ALL_KINDS - 1)) {
                return;
            }
            pulled++;
            ofKind[kind]++;
            if (kind == HAUNTED && firstHaunted == NONE) {
                firstHaunted = pulled;
                haunter = ghost;
            }
        }
    }

    /** ACTS played on a copy of the STONES, so that nothing is done in fact. */
    static final class Trial {
        final Rules rules = new Rules();
        final Shelf shelf = new Shelf();
        final Tally tally = new Tally();
        final Act act = new Act();
        int acts;
        int stoppedAt;
        int why;

        void begin(Room room) {
            rules.copyFrom(room.rules);
            shelf.copyFrom(room.shelf);
            tally.clear();
            acts = 0;
            stoppedAt = NONE;
            why = NONE;
        }

        void playPad(Pad pad) {
            for (int start = 0; start < pad.size; start += pad.hasThird(start) ? 3 : 2) {
                pad.readAct(start, act);
                int reason = reasonAgainst();
                if (reason != 0) {
                    stoppedAt = acts;
                    why = reason;
                    return;
                }
                carryOut();
                acts++;
            }
        }

        void playYear(int seed, int m) {
            int x = seed;
            for (int i = 0; i < m; i++) {
                x = (75 * x + 74) % 65537;
                readDraw(x);
                if (reasonAgainst() == 0) {
                    carryOut();
                }
            }
        }

        void readDraw(int x) {
            int amount = 1 + x / 20 % 9;
            switch (x / 5 % 4) {
                case 0: act.become(x % 5, DRAW, x / 20 % 8); break;
                case 1: act.become(x % 5, EIGHTS, amount); break;
                case 2: act.become(x % 5, WATER, amount); break;
                default: act.become(x % 5, PULL, amount); break;
            }
        }

        /** The least reason why the act can not be; 0 if it can. */
        int reasonAgainst() {
            int stone = act.stone;
            if (!shelf.has(stone) || act.kind == GLUE && !shelf.has(act.amount)) {
                return NO_STONE;
            }
            switch (act.kind) {
                case GLUE: return act.amount == stone ? SAME_STONE : 0;
                case DRAW: return reasonAgainstDraw(stone);
                case PULL: return reasonAgainstPulls(stone);
                case CIRCLES:
                case EIGHTS:
                    return shelf.thick[stone] - BITE * act.amount < rules.least ? TOO_THIN : 0;
                default: return 0;
            }
        }

        int reasonAgainstDraw(int stone) {
            if (!shelf.has(stone)) {
                return NO_STONE;
            }
            if (shelf.fresh[stone] != NONE) {
                return IS_FRESH;
            }
            return shelf.hollow[stone] > rules.flat ? TOO_HOLLOW : 0;
        }

        int reasonAgainstPulls(int stone) {
            if (!shelf.has(stone)) {
                return NO_STONE;
            }
            if (shelf.fresh[stone] == NONE) {
                return NOT_FRESH;
            }
            if (shelf.hollow[stone] > rules.flat) {
                return TOO_HOLLOW;
            }
            return shelf.thick[stone] < rules.least ? TOO_THIN : 0;
        }

        void carryOut() {
            int stone = act.stone;
            switch (act.kind) {
                case DRAW: shelf.draw(stone, act.amount, rules.deepOf(act.amount)); break;
                case CIRCLES: shelf.grindOff(stone, act.amount, true); break;
                case EIGHTS: shelf.grindOff(stone, act.amount, false); break;
                case WATER: shelf.wet(stone, act.amount); break;
                case PULL: pullSeveral(stone, act.amount); break;
                default: shelf.glueBelow(stone, act.amount); break;
            }
        }

        void pullSeveral(int stone, int times) {
            if (!shelf.has(stone)) {
                return;
            }
            int fresh = shelf.fresh[stone];
            for (int i = 0; i < times; i++) {
                int kind = shelf.pullOnce(stone, rules.wear(fresh));
                tally.add(kind, shelf.greatestGhost(stone, fresh));
            }
        }
    }

    /** ORDERS: the most PAY of the PICTURES from one on, by which STONES are taken already. */
    static final class OrderTable {
        /** By PICTURE and set of taken STONES; a row more for no PICTURE left. */
        final int[] best = new int[(PICTURES + 1) * STONE_SETS];
        /** Which STONES, as bits, each PICTURE may be drawn on. */
        final int[] allowed = new int[PICTURES];
        final int[] pay = new int[PICTURES];

        void fill(Room room, int set, int m) {
            for (int picture = 0; picture < PICTURES; picture++) {
                pay[picture] = room.rules.payOf(picture);
                allowed[picture] = hasBit(set, picture) ? stonesFor(room, picture, m) : 0;
            }
            for (int picture = PICTURES - 1; picture >= 0; picture--) {
                for (int taken = 0; taken < STONE_SETS; taken++) {
                    best[picture * STONE_SETS + taken] = bestFrom(picture, taken);
                }
            }
        }

        int stonesFor(Room room, int picture, int m) {
            int bits = 0;
            for (int stone = 0; stone < STONES; stone++) {
                if (room.takesOrders(stone) && room.wouldLast(stone, picture, 0, m)) {
                    bits |= 1 << stone;
                }
            }
            return bits;
        }

        int bestFrom(int picture, int taken) {
            int most = payBehind(picture, taken);
            for (int stone = 0; stone < STONES; stone++) {
                if (isFree(picture, stone, taken)) {
                    most = Math.max(most, payWith(picture, stone, taken));
                }
            }
            return most;
        }

        boolean isFree(int picture, int stone, int taken) {
            return inside(picture, 0, PICTURES - 1) && hasBit(allowed[picture] & ~taken, stone);
        }

        int payWith(int picture, int stone, int taken) {
            if (!inside(picture, 0, PICTURES - 1)) {
                return 0;
            }
            return pay[picture] + payBehind(picture, taken | 1 << stone);
        }

        /** The most PAY of the PICTURES behind that one. */
        int payBehind(int picture, int taken) {
            int at = (picture + 1) * STONE_SETS + taken;
            return at >= 0 && at < best.length ? best[at] : 0;
        }

        int mostPay() {
            return best[0];
        }

        int stoneFor(int wanted) {
            int taken = 0;
            int chosen = NONE;
            for (int picture = 0; picture <= wanted && picture < PICTURES; picture++) {
                chosen = firstBest(picture, taken);
                if (chosen != NONE) {
                    taken |= 1 << chosen;
                }
            }
            return chosen;
        }

        int firstBest(int picture, int taken) {
            int most = bestFrom(picture, taken);
            for (int stone = 0; stone < STONES; stone++) {
                if (isFree(picture, stone, taken) && payWith(picture, stone, taken) == most) {
                    return stone;
                }
            }
            return NONE;
        }
    }

    /** COLOURS: the least missed from then on, by which of them, as bits, have been pulled. */
    static final class ColourTable {
        final int[] least = new int[1 << COLOURS];
        int size;

        void fill(int[] hair, int k) {
            size = Math.max(0, Math.min(COLOURS, k));
            int all = (1 << size) - 1;
            least[all] = 0;
            for (int pulled = all - 1; pulled >= 0; pulled--) {
                least[pulled] = missedWith(hair, pulled, firstBest(hair, pulled));
            }
        }

        /** The least COLOUR by which least is missed from then on. */
        int firstBest(int[] hair, int pulled) {
            int best = NONE;
            int fewest = Integer.MAX_VALUE;
            for (int colour = 0; colour < size; colour++) {
                if (!hasBit(pulled, colour)) {
                    int missed = missedWith(hair, pulled, colour);
                    if (missed < fewest) {
                        fewest = missed;
                        best = colour;
                    }
                }
            }
            return best;
        }

        /** What is missed from then on if that COLOUR comes next. */
        int missedWith(int[] hair, int pulled, int colour) {
            if (colour < 0 || colour >= hair.length) {
                return 0;
            }
            int with = pulled | 1 << colour;
            int missed = Math.abs(Integer.bitCount(pulled) - hair[colour]);
            return with >= 0 && with < least.length ? missed + least[with] : missed;
        }
    }
}
