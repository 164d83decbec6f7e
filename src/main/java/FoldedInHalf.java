import java.util.Arrays;

/** Strips of paper folded in half: their creases, where they go when opened to right corners, and leaves. */
public final class FoldedInHalf {
    public static final int NONE = -1;

    private static final int FINE = 0;
    private static final int NOBODY = -1;
    private static final int OTHER = -2;
    private static final int NOTHING = -3;
    private static final int BELOW = -4;
    private static final int BEYOND = -5;
    private static final int WRONG = -6;
    private static final int ROOM = -7;
    private static final int TENS = -10;
    private static final long FAR_BELOW = -2000000000000000L;

    private static final int STRIP = 0;
    private static final int SAME = 1;
    private static final int THIRD = 2;
    private static final int CUT = 3;
    private static final int BACK = 4;
    private static final int GLASS = 5;
    private static final int LEFT = 6;
    private static final int KINDS = 7;
    private static final int[] KIND_ABOVE = {-1, STRIP, STRIP, STRIP, CUT, STRIP, GLASS};

    private static final int MOST_STRIPS = 8;
    private static final int MOST_SHELVES = 8;
    private static final int MOST_ELEMENTS = 160;
    private static final int MOST_LEVELS = 40;
    private static final int MOST_LEVELS_IN_THIRDS = 25;
    private static final int GREATEST_A = 999999;
    private static final int ROWS = 100;
    private static final int SORTS = 4;
    private static final int LETTERS = 10;
    private static final int FIRST_REFUSAL = 10;

    private static final int MOST_SIDES = 4000;
    private static final int MOST_SIDES_BY_FOUR = 1000;
    private static final int FARTHEST_REACH = 30;
    private static final int FARTHEST_OFF = 100;
    private static final long FARTHEST_LEFT = 100000;
    private static final int SLOTS = 8192;
    private static final int MOST_TOLD = 63;
    private static final int LONGEST_PIECE = 40;
    private static final int MOST_END_LEVELS = 10;
    private static final int MOST_LEAVES = 8;
    private static final int MOST_PAGE_FOLDS = 6;
    private static final int KEPT_BODIES = 20;
    private static final int BITS_OF_INT = 32;

    private final Strip[] strips = new Strip[MOST_STRIPS];
    private int count;
    private final Strip[] imageStrips = new Strip[MOST_STRIPS];
    private int imageCount = NONE;
    private final Shelf[] shelves = new Shelf[MOST_SHELVES];
    private final int[] refusals = new int[1 - ROOM];
    private int fault = NONE;
    private final StringBuilder bodies = new StringBuilder();
    private final Reader reader = new Reader();
    private final Bug bug = new Bug(SLOTS);
    private final Bug secondBug = new Bug(0);
    private final Leaves leaves = new Leaves();

    public FoldedInHalf() {
        for (int s = 0; s < shelves.length; s++) {
            shelves[s] = new Shelf();
        }
    }

    // Shelves and rows.

    public int row(int s, int sort, int n) {
        int why = FINE;
        if (!isShelf(s)) {
            why = NOBODY;
        } else if (n < 0) {
            why = BELOW;
        } else if (sort < 0 || sort >= SORTS) {
            why = WRONG;
        } else if (n > MOST_ELEMENTS) {
            why = ROOM;
        }
        if (why != FINE) {
            return refuse(why);
        }
        shelves[s].holdNewRow(sort, n);
        return 1;
    }

    public int set(int s, int i, long v) {
        int why = noRow(s);
        if (why == FINE && !shelves[s].has(i)) {
            why = BEYOND;
        }
        if (why != FINE) {
            return refuse(why);
        }
        shelves[s].put(i, v);
        return 1;
    }

    public int copy(int p, int q, int i, int j, int n) {
        int why = noCopy(p, q, i, j, n);
        if (why != FINE) {
            return refuse(why);
        }
        System.arraycopy(shelves[p].items, i, shelves[q].items, j, n);
        return 1;
    }

    private int noCopy(int p, int q, int i, int j, int n) {
        if (!isShelf(p) || !isShelf(q)) {
            return NOBODY;
        }
        Shelf from = shelves[p];
        Shelf to = shelves[q];
        if (from.holdsStrip() || to.holdsStrip()) {
            return OTHER;
        }
        if (from.holdsRow() && to.holdsRow() && from.holding != to.holding) {
            return OTHER;
        }
        if (!from.holdsRow() || !to.holdsRow()) {
            return NOTHING;
        }
        if (n < 0) {
            return BELOW;
        }
        boolean there = i >= 0 && j >= 0 && n <= from.size && n <= to.size
                && i <= from.size - n && j <= to.size - n;
        return there ? FINE : BEYOND;
    }

    public long element(int s, int i) {
        if (!isShelf(s) || !shelves[s].has(i)) {
            return 0;
        }
        return shelves[s].items[i];
    }

    public int show(int s, int strip) {
        if (!isShelf(s) || strip != NONE && !isStrip(strip)) {
            return refuse(NOBODY);
        }
        shelves[s].hold(strip);
        return strip == NONE ? 0 : 1;
    }

    public int holds(int s) {
        return isShelf(s) ? shelves[s].holding : NONE;
    }

    public int says(int s, int kind) {
        if (!isShelf(s) || kind < 0 || kind >= KINDS) {
            return refuse(NOBODY);
        }
        int holding = shelves[s].holding;
        if (holding == NONE) {
            return refuse(NOTHING);
        }
        if (!isStrip(holding) || !isUnder(strips[holding].kind, kind)) {
            return refuse(OTHER);
        }
        return saysAs(strips[holding], kind);
    }

    private static int saysAs(Strip strip, int kind) {
        switch (kind) {
            case STRIP:
                return strip.levels;
            case SAME:
                return strip.a % 2;
            case THIRD:
                return (int) (strip.creaseCount() % 1000);
            case CUT:
            case BACK:
                return (int) (strip.cutOff() % 1000);
            default:
                return strip.creaseAt(1);
        }
    }

    private static boolean isUnder(int kind, int wanted) {
        int above = kind;
        for (int step = 0; step < KINDS && above >= 0 && above < KINDS; step++) {
            if (above == wanted) {
                return true;
            }
            above = KIND_ABOVE[above];
        }
        return false;
    }

    // Strips.

    public int strip(int kind, int a, int s, int n) {
        int why = noStrip(kind, a, s, n);
        if (why != FINE) {
            return refuse(why);
        }
        long word = 0;
        for (int level = 0; level < n; level++) {
            word |= (shelves[s].asInt(level) & 1L) << level;
        }
        strips[count] = Strip.made(kind, count, a, n, word);
        count++;
        return count - 1;
    }

    private int noStrip(int kind, int a, int s, int n) {
        if (kind < 0 || kind >= KINDS) {
            return NOBODY;
        }
        int why = noFirstElements(s, n);
        if (why != FINE) {
            return why;
        }
        if (n < 1 || n > mostLevels(kind) || a < 0 || a > GREATEST_A) {
            return WRONG;
        }
        return count >= MOST_STRIPS ? ROOM : FINE;
    }

    private static int mostLevels(int kind) {
        return kind == THIRD ? MOST_LEVELS_IN_THIRDS : MOST_LEVELS;
    }

    public int stripOf(int strip, int what) {
        if (isStrip(strip)) {
            Strip one = strips[strip];
            if (what == 0) {
                return one.kind;
            }
            if (what == 1) {
                return one.a;
            }
            if (what == 2) {
                return one.levels;
            }
            if (what >= LETTERS && what - LETTERS < one.levels) {
                return one.letter(what - LETTERS);
            }
        }
        return refuse(BEYOND);
    }

    public int turn(int strip, int level) {
        if (!isStrip(strip)) {
            return refuse(NOBODY);
        }
        Strip one = strips[strip];
        if (level < 0 || level >= one.levels) {
            return refuse(BEYOND);
        }
        strips[strip] = Strip.made(one.kind, strip, one.a, one.levels, one.word ^ (1L << level));
        return one.letter(level);
    }

    public int read(int s) {
        int why = noRow(s);
        if (why != FINE) {
            return refuse(why);
        }
        reader.beginWith(strips, count);
        int items = reader.tell(shelves[s]);
        fault = reader.fault;
        if (fault != NONE) {
            return refuse(WRONG);
        }
        copyStrips(reader.strips, strips);
        count = reader.count;
        return items;
    }

    public int fault() {
        return fault;
    }

    // Creases, ways and places.

    public long creases(int strip) {
        return isStrip(strip) ? strips[strip].creaseCount() : refuse(NOBODY);
    }

    public int crease(int strip, long n) {
        if (!isStrip(strip)) {
            return refuse(NOBODY);
        }
        if (n < 1 || n > strips[strip].creaseCount()) {
            return refuse(BEYOND);
        }
        return strips[strip].creaseAt(n);
    }

    public int way(int strip, long n) {
        if (!isStrip(strip)) {
            return refuse(NOBODY);
        }
        if (n < 1 || n > strips[strip].sides()) {
            return refuse(BEYOND);
        }
        return strips[strip].wayBehind(n - 1);
    }

    public long place(int strip, long n, int what) {
        int why = FINE;
        if (!isStrip(strip)) {
            why = NOBODY;
        } else if (n < 0 || n > strips[strip].sides() || what != 0 && what != 1) {
            why = BEYOND;
        } else if (strips[strip].kind == LEFT && n > FARTHEST_LEFT) {
            why = ROOM;
        }
        if (why != FINE) {
            return FAR_BELOW + refuse(why);
        }
        strips[strip].lead(bug, n);
        return what == 0 ? bug.x : bug.y;
    }

    // A bug on a strip.

    public int passed(int strip, int n, int x, int y) {
        int why = noWalk(strip, n, MOST_SIDES);
        if (why != FINE) {
            return refuse(why);
        }
        int times = 0;
        bug.setOut(strips[strip], 0, 0, 0);
        for (int gone = 0; gone <= n; gone++) {
            if (bug.isAt(x, y)) {
                times++;
            }
            bug.step();
        }
        return times;
    }

    public int most(int strip, int n) {
        int why = noWalk(strip, n, MOST_SIDES);
        if (why != FINE) {
            return refuse(why);
        }
        int most = 0;
        bug.forget();
        bug.setOut(strips[strip], 0, 0, 0);
        for (int gone = 0; gone <= n; gone++) {
            most = Math.max(most, bug.note(bug.placeKey()));
            bug.step();
        }
        return most;
    }

    public int twice(int strip, int n) {
        int why = noWalk(strip, n, MOST_SIDES);
        if (why != FINE) {
            return refuse(why);
        }
        int again = 0;
        bug.forget();
        bug.setOut(strips[strip], 0, 0, 0);
        for (int gone = 0; gone < n; gone++) {
            bug.step();
            if (bug.note(bug.sideKey()) > 1) {
                again++;
            }
        }
        return again;
    }

    public int cover(int strip, int n) {
        int why = noWalk(strip, n, MOST_SIDES);
        if (why != FINE) {
            return refuse(why);
        }
        int unlike = 0;
        bug.forget();
        bug.setOut(strips[strip], 0, 0, 0);
        for (int gone = 0; gone <= n; gone++) {
            if (bug.note(bug.placeKey()) == 1) {
                unlike++;
            }
            bug.step();
        }
        return unlike;
    }

    public int when(int strip, int x, int y, int i) {
        if (!isStrip(strip)) {
            return refuse(NOBODY) + TENS;
        }
        if (i < 0) {
            return refuse(BEYOND) + TENS;
        }
        int n = (int) Math.min(MOST_SIDES, strips[strip].sides());
        int times = 0;
        bug.setOut(strips[strip], 0, 0, 0);
        for (int gone = 0; gone <= n; gone++) {
            if (bug.isAt(x, y)) {
                if (times == i) {
                    return gone;
                }
                times++;
            }
            bug.step();
        }
        return NONE;
    }

    public int near(int strip, int other, int n, int dx, int dy, int what) {
        int why = noNear(strip, other, n, dx, dy, what);
        if (why != FINE) {
            return refuse(why);
        }
        bug.setOut(strips[strip], 0, 0, 0);
        secondBug.setOut(strips[other], dx, dy, 0);
        long least = NONE;
        int first = 0;
        for (int gone = 0; gone <= n; gone++) {
            long apart = bug.apartSquared(secondBug);
            if (gone == 0 || apart < least) {
                least = apart;
                first = gone;
            }
            bug.step();
            secondBug.step();
        }
        return what == 0 ? (int) least : first;
    }

    private int noNear(int strip, int other, int n, int dx, int dy, int what) {
        int one = noWalk(strip, n, MOST_SIDES);
        int two = noWalk(other, n, MOST_SIDES);
        if (one == NOBODY || two == NOBODY) {
            return NOBODY;
        }
        if (one == BEYOND || two == BEYOND || what != 0 && what != 1) {
            return BEYOND;
        }
        boolean wrong = one == WRONG || isFarOff(dx) || isFarOff(dy);
        return wrong ? WRONG : FINE;
    }

    private static boolean isFarOff(int d) {
        return d < -FARTHEST_OFF || d > FARTHEST_OFF;
    }

    public int four(int strip, int n) {
        int why = noWalk(strip, n, MOST_SIDES_BY_FOUR);
        if (why != FINE) {
            return refuse(why);
        }
        bug.forget();
        for (int way = 0; way < 4; way++) {
            bug.setOut(strips[strip], 0, 0, way);
            for (int gone = 0; gone < n; gone++) {
                bug.step();
                bug.note(bug.sideKey());
            }
        }
        int reach = 0;
        while (reach < FARTHEST_REACH && bug.wentOnceAlongAll(reach + 1)) {
            reach++;
        }
        return reach;
    }

    // Told creases.

    public int words(int s, int n, int what) {
        int why = noTold(s, n);
        if (why == FINE && (what < NONE || what >= levelsReached(n))) {
            why = BEYOND;
        }
        if (why != FINE) {
            return refuse(why) + TENS;
        }
        int ones = levelsAsked(shelves[s], n, 1);
        int zeros = levelsAsked(shelves[s], n, 0);
        boolean fits = (ones & zeros) == 0;
        if (what == NONE) {
            return fits ? levelsReached(n) - Integer.bitCount(ones | zeros) : NONE;
        }
        if (!fits) {
            return refuse(BEYOND) + TENS;
        }
        return (ones >> what) & 1;
    }

    public int wrong(int s, int n) {
        int why = noTold(s, n);
        if (why != FINE) {
            return refuse(why) + TENS;
        }
        for (int i = 1; i <= n; i++) {
            if ((levelsAsked(shelves[s], i, 1) & levelsAsked(shelves[s], i, 0)) != 0) {
                return i;
            }
        }
        return NONE;
    }

    public int mend(int s, int n) {
        int why = noTold(s, n);
        if (why != FINE) {
            return refuse(why);
        }
        int turned = 0;
        for (int step = 1; step <= n; step *= 2) {
            int ones = 0;
            int zeros = 0;
            for (int i = step; i <= n; i += 2 * step) {
                int asked = letterAsked(shelves[s], i);
                ones += asked == 1 ? 1 : 0;
                zeros += asked == 0 ? 1 : 0;
            }
            turned += Math.min(ones, zeros);
        }
        return turned;
    }

    public int judge(int strip, int s, int n) {
        int why = isStrip(strip) ? noFirstElements(s, n) : NOBODY;
        if (why == FINE && n > strips[strip].creaseCount()) {
            why = BEYOND;
        }
        if (why == FINE && n > MOST_TOLD) {
            why = WRONG;
        }
        if (why != FINE) {
            return refuse(why) + TENS;
        }
        for (int i = 1; i <= n; i++) {
            if (!shelves[s].tells(i - 1, strips[strip].creaseAt(i))) {
                return i;
            }
        }
        return NONE;
    }

    /** The levels, as bits, whose letter some of the told creases 1 to n ask to be the one given. */
    private static int levelsAsked(Shelf told, int n, int letter) {
        int levels = 0;
        for (int i = 1; i <= n; i++) {
            if (letterAsked(told, i) == letter) {
                levels |= i & -i;
            }
        }
        return levels;
    }

    /** The letter that told crease i asks of its level; NONE if it is not seen. */
    private static int letterAsked(Shelf told, int i) {
        int seen = told.asInt(i - 1);
        if (seen != 0 && seen != 1) {
            return NONE;
        }
        int low = i & -i;
        boolean plain = (i & (low << 1)) == 0;
        return plain ? seen : 1 - seen;
    }

    private static int levelsReached(int n) {
        return BITS_OF_INT - Integer.numberOfLeadingZeros(n);
    }

    public int ends(int f, int x, int y, int what) {
        if (what != 0 && what != 1) {
            return refuse(BEYOND);
        }
        if (f < 1 || f > MOST_END_LEVELS) {
            return refuse(WRONG);
        }
        int many = 0;
        int first = NONE;
        for (int word = 0; word < 1 << f; word++) {
            if (endsAt(f, Integer.bitCount(word), x, y)) {
                many++;
                first = first == NONE ? word : first;
            }
        }
        if (what == 0) {
            return many;
        }
        return first == NONE ? refuse(BEYOND) : first;
    }

    /** Whether words of f levels, so many of them 1, end there: the order of the letters does not matter. */
    private static boolean endsAt(int f, int ones, int x, int y) {
        int endX = 1;
        int endY = 0;
        for (int level = 0; level < f; level++) {
            int to = level < ones ? 1 : -1;
            int turnedX = endX - to * endY;
            endY = endY + to * endX;
            endX = turnedX;
        }
        return endX == x && endY == y;
    }

    public int piece(int strip, int s, int n, int what) {
        int why = isStrip(strip) ? noFirstElements(s, n) : NOBODY;
        if (why == FINE && what != 0 && what != 1) {
            why = BEYOND;
        }
        if (why == FINE && (n < 1 || n > LONGEST_PIECE)) {
            why = WRONG;
        }
        if (why != FINE) {
            return refuse(why);
        }
        int last = (int) Math.min(MOST_SIDES, strips[strip].creaseCount()) - n + 1;
        int many = 0;
        for (int from = 1; from <= last; from++) {
            if (standsFrom(strips[strip], shelves[s], n, from)) {
                if (what == 1) {
                    return from;
                }
                many++;
            }
        }
        return what == 0 ? many : refuse(BEYOND);
    }

    private static boolean standsFrom(Strip strip, Shelf told, int n, int from) {
        for (int i = 0; i < n; i++) {
            if (!told.tells(i, strip.creaseAt(from + i))) {
                return false;
            }
        }
        return true;
    }

    // Leaves.

    public int can(int s, int n) {
        int why = noFirstElements(s, n);
        if (why == FINE && (n < 1 || n > MOST_LEAVES || !leaves.areOrder(shelves[s], n))) {
            why = WRONG;
        }
        if (why != FINE) {
            return refuse(why);
        }
        return leaves.canLie(shelves[s], n) ? 1 : 0;
    }

    public int orders(int n) {
        if (n < 1 || n > MOST_LEAVES) {
            return refuse(WRONG);
        }
        return leaves.howMany(n);
    }

    public int order(int n, int i, int place) {
        if (i < 0 || place < 0) {
            return refuse(BEYOND);
        }
        if (n < 1 || n > MOST_LEAVES) {
            return refuse(WRONG);
        }
        if (place >= n || i >= leaves.howMany(n)) {
            return refuse(BEYOND);
        }
        return leaves.leafOf(n, i, place);
    }

    public int page(int f, int place) {
        if (place < 0) {
            return refuse(BEYOND);
        }
        if (f < 1 || f > MOST_PAGE_FOLDS) {
            return refuse(WRONG);
        }
        if (place >= 1 << f) {
            return refuse(BEYOND);
        }
        int column = 0;
        int depth = place;
        for (int folds = f; folds > 0; folds--) {
            int half = 1 << (folds - 1);
            if (depth < half) {
                // It came from the right, bottom side up.
                column = (2 << (f - folds)) - 1 - column;
                depth = half - 1 - depth;
            } else {
                depth -= half;
            }
        }
        return column;
    }

    // Acts, the image, and how things stand.

    public int drop() {
        if (count <= 0) {
            return refuse(WRONG);
        }
        count--;
        strips[count] = null;
        clearShelvesOfLostStrips();
        return count;
    }

    public int act(int strip, int act, int x) {
        bodies.setLength(0);
        if (!isStrip(strip)) {
            return 0;
        }
        switch (act) {
            case 0:
                return strips[strip].folds(bodies, x);
            case 1:
                return strips[strip].opens(bodies, x);
            case 2:
                return strips[strip].lies(bodies, x);
            default:
                return 0;
        }
    }

    public int trace(int i) {
        if (i < 0 || i >= KEPT_BODIES || i >= bodies.length()) {
            return NONE;
        }
        return bodies.charAt(i);
    }

    public int image() {
        copyStrips(strips, imageStrips);
        imageCount = count;
        return count;
    }

    public int restore() {
        if (imageCount == NONE) {
            return refuse(WRONG);
        }
        copyStrips(imageStrips, strips);
        count = imageCount;
        clearShelvesOfLostStrips();
        return count;
    }

    public int status(int what) {
        if (what == 0) {
            return count;
        }
        if (what == 1) {
            return levelsOfAll();
        }
        if (what == 2) {
            return onesOfAll();
        }
        if (what == 3) {
            return bodies.length();
        }
        if (what > FIRST_REFUSAL && what - FIRST_REFUSAL < refusals.length) {
            return refusals[what - FIRST_REFUSAL];
        }
        return NONE;
    }

    private int levelsOfAll() {
        int levels = 0;
        for (int i = 0; i < count; i++) {
            levels += strips[i].levels;
        }
        return levels;
    }

    private int onesOfAll() {
        int ones = 0;
        for (int i = 0; i < count; i++) {
            ones += Long.bitCount(strips[i].word);
        }
        return ones;
    }

    // What is asked ahead of a call.

    private int refuse(int why) {
        if (why < FINE && -why < refusals.length) {
            refusals[-why]++;
        }
        return why;
    }

    private boolean isShelf(int s) {
        return s >= 0 && s < shelves.length;
    }

    private boolean isStrip(int strip) {
        return strip >= 0 && strip < count && count <= strips.length;
    }

    private int noRow(int s) {
        if (!isShelf(s)) {
            return NOBODY;
        }
        if (shelves[s].holdsRow()) {
            return FINE;
        }
        return shelves[s].holdsStrip() ? OTHER : NOTHING;
    }

    private int noFirstElements(int s, int n) {
        int why = noRow(s);
        if (why != FINE) {
            return why;
        }
        if (n < 0) {
            return BELOW;
        }
        return n > shelves[s].size ? BEYOND : FINE;
    }

    private int noTold(int s, int n) {
        int why = noFirstElements(s, n);
        return why == FINE && n > MOST_TOLD ? WRONG : why;
    }

    private int noWalk(int strip, int n, int most) {
        if (!isStrip(strip)) {
            return NOBODY;
        }
        if (n > strips[strip].sides()) {
            return BEYOND;
        }
        return n < 0 || n > most ? WRONG : FINE;
    }

    private void clearShelvesOfLostStrips() {
        for (int s = 0; s < shelves.length; s++) {
            if (shelves[s].holdsStrip() && shelves[s].holding >= count) {
                shelves[s].hold(NONE);
            }
        }
    }

    private static void copyStrips(Strip[] from, Strip[] to) {
        for (int i = 0; i < from.length && i < to.length; i++) {
            to[i] = from[i];
        }
    }

    /** A strip never changes (a turned one is another object), so an image or a reading can share them. */
    private static class Strip {
        final int kind;
        final int number;
        final int a;
        final int levels;
        final long word;

        Strip(int kind, int number, int a, int levels, long word) {
            this.kind = kind;
            this.number = number;
            this.a = a;
            this.levels = levels;
            this.word = word;
        }

        static Strip made(int kind, int number, int a, int levels, long word) {
            switch (kind) {
                case SAME:
                    return new Same(number, a, levels, word);
                case THIRD:
                    return new Third(number, a, levels, word);
                case CUT:
                    return new Cut(CUT, number, a, levels, word);
                case BACK:
                    return new Back(number, a, levels, word);
                case GLASS:
                    return new Glass(GLASS, number, a, levels, word);
                case LEFT:
                    return new Left(number, a, levels, word);
                default:
                    return new Strip(STRIP, number, a, levels, word);
            }
        }

        int letter(int level) {
            return (int) ((word >> level) & 1);
        }

        /** The letters, as bits, that its creases go by. */
        long creaseLetters() {
            return word;
        }

        int toward(int level) {
            return ((creaseLetters() >> level) & 1) == 1 ? 1 : -1;
        }

        long creaseCount() {
            return (1L << levels) - 1;
        }

        long sides() {
            return creaseCount() + 1;
        }

        long cutOff() {
            return 0;
        }

        int creaseAt(long n) {
            long low = n & -n;
            int letter = (creaseLetters() & low) != 0 ? 1 : 0;
            return (n & (low << 1)) == 0 ? letter : 1 - letter;
        }

        /** The creases of a level undo one another by twos: what those up to crease n leave. */
        int leftOver(long n, int level) {
            long odds = ((n >> level) + 1) / 2;
            return odds % 2 == 1 ? toward(level) : 0;
        }

        /** The way that it goes behind its crease n. */
        int wayBehind(long n) {
            int way = 0;
            for (int level = 0; level < levels; level++) {
                way += leftOver(n, level);
            }
            return way & 3;
        }

        /** Brings the bug to place n: from the widest level down, each fold makes two sides of one. */
        void lead(Bug bug, long n) {
            bug.standAt(n >> levels, 0);
            int way = 0;
            for (int level = levels - 1; level >= 0; level--) {
                int to = toward(level);
                int quarter = (int) ((n >> level) & 3);
                bug.stretch(1, to);
                if (quarter == 1) {
                    bug.goOn(way);
                } else if (quarter == 3) {
                    bug.goOn(way + to);
                }
                way += leftOver(n, level);
            }
        }

        int folds(StringBuilder bodies, int x) {
            bodies.append((char) 10);
            return x + number;
        }

        int opens(StringBuilder bodies, int x) {
            bodies.append((char) 11);
            return folds(bodies, x) * 2;
        }

        int lies(StringBuilder bodies, int x) {
            bodies.append((char) 12);
            return opens(bodies, x) ^ folds(bodies, x - a);
        }
    }

    private static final class Same extends Strip {
        Same(int number, int a, int levels, long word) {
            super(SAME, number, a, levels, word);
        }

        long creaseLetters() {
            return a % 2 == 0 ? 0 : -1;
        }

        int folds(StringBuilder bodies, int x) {
            bodies.append((char) 20);
            return super.folds(bodies, x) + a;
        }
    }

    private static final class Third extends Strip {
        Third(int number, int a, int levels, long word) {
            super(THIRD, number, a, levels, word);
        }

        long creaseCount() {
            long power = 1;
            for (int level = 0; level < levels; level++) {
                power *= 3;
            }
            return power - 1;
        }

        int creaseAt(long n) {
            long m = n;
            int level = 0;
            while (level < levels - 1 && m % 3 == 0) {
                m /= 3;
                level++;
            }
            return m % 3 == 1 ? letter(level) : 1 - letter(level);
        }

        int wayBehind(long n) {
            long m = n;
            int way = 0;
            for (int level = 0; level < levels; level++) {
                if (m % 3 == 1) {
                    way += toward(level);
                }
                m /= 3;
            }
            return way & 3;
        }

        void lead(Bug bug, long n) {
            bug.standAt(n > creaseCount() ? 1 : 0, 0);
            int way = 0;
            int level = levels - 1;
            for (long power = sides() / 3; power > 0 && level >= 0; power /= 3) {
                int to = toward(level);
                long third = n / power % 3;
                bug.stretch(2, to);
                if (third > 0) {
                    bug.goOn(way);
                }
                if (third > 1) {
                    bug.goOn(way + to);
                }
                if (third == 1) {
                    way += to;
                }
                level--;
            }
        }

        int opens(StringBuilder bodies, int x) {
            bodies.append((char) 30);
            return super.opens(bodies, x) * 3;
        }
    }

    private static class Cut extends Strip {
        private final long from;

        Cut(int kind, int number, int a, int levels, long word) {
            super(kind, number, a, levels, word);
            long whole = (1L << levels) - 1;
            this.from = whole > 0 ? a % whole : 0;
        }

        long cutOff() {
            return from;
        }

        long creaseCount() {
            return super.creaseCount() - from;
        }

        int creaseAt(long n) {
            return super.creaseAt(n + from);
        }

        int wayBehind(long n) {
            return (super.wayBehind(n + from) - super.wayBehind(from)) & 3;
        }

        void lead(Bug bug, long n) {
            super.lead(bug, from);
            long startX = bug.x;
            long startY = bug.y;
            super.lead(bug, n + from);
            bug.standAt(bug.x - startX, bug.y - startY);
            bug.turnRound(-super.wayBehind(from));
        }

        int opens(StringBuilder bodies, int x) {
            bodies.append((char) 40);
            return super.opens(bodies, x + 1);
        }
    }

    private static final class Back extends Cut {
        Back(int number, int a, int levels, long word) {
            super(BACK, number, a, levels, word);
        }

        int creaseAt(long n) {
            return 1 - super.creaseAt(sides() - n);
        }

        int wayBehind(long n) {
            return (super.wayBehind(creaseCount() - n) - super.wayBehind(creaseCount())) & 3;
        }

        void lead(Bug bug, long n) {
            super.lead(bug, sides());
            long startX = bug.x;
            long startY = bug.y;
            super.lead(bug, sides() - n);
            bug.standAt(bug.x - startX, bug.y - startY);
            bug.turnRound(2 - super.wayBehind(creaseCount()));
        }

        int lies(StringBuilder bodies, int x) {
            bodies.append((char) 50);
            return -super.lies(bodies, x);
        }

        int folds(StringBuilder bodies, int x) {
            bodies.append((char) 51);
            return super.folds(bodies, x) - number;
        }
    }

    private static class Glass extends Strip {
        Glass(int kind, int number, int a, int levels, long word) {
            super(kind, number, a, levels, word);
        }

        long creaseLetters() {
            return ~word;
        }

        int lies(StringBuilder bodies, int x) {
            bodies.append((char) 60);
            return super.lies(bodies, x) ^ 5;
        }
    }

    private static final class Left extends Glass {
        /** Eight sides leave it half turned round, so after twice as many it is where it began. */
        private static final int ROUND = 16;

        Left(int number, int a, int levels, long word) {
            super(LEFT, number, a, levels, word);
        }

        int creaseAt(long n) {
            return n % 4 == 0 ? 1 : super.creaseAt(n);
        }

        int wayBehind(long n) {
            return (leftOver(n, 0) + leftOver(n, 1) + (int) (n / 4 % 4)) & 3;
        }

        void lead(Bug bug, long n) {
            bug.setOut(this, 0, 0, 0);
            for (int gone = 0; gone < n % ROUND; gone++) {
                bug.step();
            }
        }

        int folds(StringBuilder bodies, int x) {
            bodies.append((char) 70);
            return super.folds(bodies, x) * 2;
        }

        int opens(StringBuilder bodies, int x) {
            bodies.append((char) 71);
            return super.opens(bodies, x - a);
        }
    }

    /** Holds NONE, a strip by its number, or a row: ROWS and its sort. */
    private static final class Shelf {
        int holding = NONE;
        int size;
        final long[] items = new long[MOST_ELEMENTS];

        void hold(int strip) {
            holding = strip;
            size = 0;
        }

        void holdNewRow(int sort, int n) {
            holding = ROWS + sort;
            size = n;
            Arrays.fill(items, 0);
        }

        boolean holdsRow() {
            return holding >= ROWS;
        }

        boolean holdsStrip() {
            return holding != NONE && holding < ROWS;
        }

        boolean has(int i) {
            return i >= 0 && i < size && size <= items.length;
        }

        void put(int i, long v) {
            if (has(i)) {
                items[i] = cutToSort(v);
            }
        }

        private long cutToSort(long v) {
            switch (holding - ROWS) {
                case 0:
                    return (byte) v;
                case 1:
                    return (short) v;
                case 2:
                    return (int) v;
                default:
                    return v;
            }
        }

        int asInt(int i) {
            return has(i) ? (int) items[i] : 0;
        }

        /** Whether a told crease may be so: one that is not seen may be either. */
        boolean tells(int i, int crease) {
            int seen = asInt(i);
            return seen == crease || seen != 0 && seen != 1;
        }
    }

    /** Reads a set of strips over a copy, so that a fault leaves all as it was. */
    private static final class Reader {
        private static final int MOST_DIGITS = 6;

        final Strip[] strips = new Strip[MOST_STRIPS];
        int count;
        int fault;
        private Shelf text;
        private int at;
        private int number;
        private int numberAt;
        private int levels;
        private long word;

        void beginWith(Strip[] those, int howMany) {
            copyStrips(those, strips);
            count = howMany;
            fault = NONE;
            at = 0;
        }

        /** How many items there were, up to the fault if there is one. */
        int tell(Shelf row) {
            text = row;
            int items = 0;
            boolean more = true;
            while (more && items < MOST_ELEMENTS) {
                items++;
                int first = here();
                if (first == 's') {
                    more = stripItem();
                } else if (first == 't') {
                    more = turnItem();
                } else if (first == 'l') {
                    more = lessItem();
                } else {
                    more = fail(at);
                }
                more = more && at < row.size && letters(";");
            }
            return items;
        }

        private boolean stripItem() {
            int start = at;
            if (!letters("strip")) {
                return false;
            }
            if (count >= strips.length) {
                return fail(start);
            }
            if (!letters(" ") || !numberUpTo(KINDS - 1)) {
                return false;
            }
            int kind = number;
            if (!letters(" ") || !numberUpTo(GREATEST_A)) {
                return false;
            }
            int a = number;
            if (!letters(" ") || !wordUpTo(mostLevels(kind))) {
                return false;
            }
            strips[count] = Strip.made(kind, count, a, levels, word);
            count++;
            return true;
        }

        private boolean wordUpTo(int most) {
            word = 0;
            levels = 0;
            while (levels < most && (here() == 'l' || here() == 'r')) {
                if (here() == 'l') {
                    word |= 1L << levels;
                }
                levels++;
                at++;
            }
            return levels > 0 || fail(at);
        }

        private boolean turnItem() {
            if (!letters("turn ") || !numberOfStrip()) {
                return false;
            }
            int which = number;
            Strip one = strips[which];
            if (!letters(" ") || !numberUpTo(one.levels - 1)) {
                return false;
            }
            strips[which] = Strip.made(one.kind, which, one.a, one.levels, one.word ^ (1L << number));
            return true;
        }

        private boolean lessItem() {
            if (!letters("less ") || !numberOfStrip()) {
                return false;
            }
            Strip one = strips[number];
            if (one.levels < 2) {
                return fail(numberAt);
            }
            int left = one.levels - 1;
            strips[number] = Strip.made(one.kind, number, one.a, left, one.word & ((1L << left) - 1));
            return true;
        }

        private boolean numberOfStrip() {
            return numberUpTo(count - 1);
        }

        private boolean numberUpTo(int most) {
            numberAt = at;
            number = 0;
            for (int digits = 0; digits < MOST_DIGITS && here() >= '0' && here() <= '9'; digits++) {
                number = 10 * number + here() - '0';
                at++;
            }
            if (at == numberAt || number > most) {
                return fail(numberAt);
            }
            return true;
        }

        private boolean letters(String expected) {
            for (int i = 0; i < expected.length(); i++) {
                if (here() != expected.charAt(i)) {
                    return fail(at);
                }
                at++;
            }
            return true;
        }

        private int here() {
            return text != null && text.has(at) ? text.asInt(at) : NONE;
        }

        private boolean fail(int place) {
            fault = place;
            return false;
        }
    }

    /** Goes along a strip, side by side, and can count the places or sides that it came by. */
    private static final class Bug {
        private static final int MIDDLE = 4096;
        private static final int BITS = 13;
        private static final int SPREAD = 0x9E3779B1;

        long x;
        long y;
        private Strip strip;
        private int gone;
        private int way;
        private final int[] keys;
        private final int[] times;

        Bug(int slots) {
            keys = new int[slots];
            times = new int[slots];
        }

        void setOut(Strip along, long startX, long startY, int firstWay) {
            strip = along;
            gone = 0;
            way = firstWay;
            standAt(startX, startY);
        }

        /** Goes the next side; it stays where it is when the strip is at its end. */
        void step() {
            if (strip == null || gone >= strip.sides()) {
                return;
            }
            if (gone > 0) {
                way += strip.creaseAt(gone) == 1 ? 1 : 3;
            }
            gone++;
            goOn(way);
        }

        void goOn(int oneWay) {
            switch (oneWay & 3) {
                case 0:
                    x++;
                    break;
                case 1:
                    y++;
                    break;
                case 2:
                    x--;
                    break;
                default:
                    y--;
                    break;
            }
        }

        void standAt(long newX, long newY) {
            x = newX;
            y = newY;
        }

        /** Its place times on + to i, with i a quarter to the left. */
        void stretch(int on, int to) {
            standAt(on * x - to * y, on * y + to * x);
        }

        void turnRound(int quarters) {
            for (int i = 0; i < (quarters & 3); i++) {
                standAt(-y, x);
            }
        }

        boolean isAt(int thatX, int thatY) {
            return x == thatX && y == thatY;
        }

        long apartSquared(Bug other) {
            return (x - other.x) * (x - other.x) + (y - other.y) * (y - other.y);
        }

        int placeKey() {
            return key(x, y, 0);
        }

        /** The key of the side gone last: its lower or left end, and whether it stands upright. */
        int sideKey() {
            switch (way & 3) {
                case 0:
                    return key(x - 1, y, 0);
                case 1:
                    return key(x, y - 1, 1);
                case 2:
                    return key(x, y, 0);
                default:
                    return key(x, y, 1);
            }
        }

        private static int key(long x, long y, int upright) {
            int column = (int) x + MIDDLE;
            int line = (int) y + MIDDLE;
            return (((column << BITS) | line) << 1) | upright;
        }

        void forget() {
            Arrays.fill(times, 0);
        }

        /** How often it has come by that by now, this time too. */
        int note(int key) {
            int slot = slotOf(key);
            if (slot == NONE) {
                return 0;
            }
            keys[slot] = key;
            times[slot]++;
            return times[slot];
        }

        boolean wentOnceAlongAll(int reach) {
            for (int left = -reach; left <= reach; left++) {
                for (int low = -reach; low <= reach; low++) {
                    boolean across = left == reach || timesOf(key(left, low, 0)) == 1;
                    boolean upward = low == reach || timesOf(key(left, low, 1)) == 1;
                    if (!across || !upward) {
                        return false;
                    }
                }
            }
            return true;
        }

        private int timesOf(int key) {
            int slot = slotOf(key);
            return slot == NONE ? 0 : times[slot];
        }

        /** The slot of a key, or the free one that it may take. */
        private int slotOf(int key) {
            int first = (key * SPREAD) >>> (BITS_OF_INT - BITS);
            for (int i = 0; i < times.length; i++) {
                int slot = (first + i) % times.length;
                if (times[slot] == 0 || keys[slot] == key) {
                    return slot;
                }
            }
            return NONE;
        }
    }

    /** Lays leaves on one another, from above, and keeps the orders that can be, packed by threes of bits. */
    private static final class Leaves {
        private static final int ALL_ORDERS = 2073;
        private static final int LEAF_BITS = 3;

        private final int[] at = new int[MOST_LEAVES];
        private final int[] placeOf = new int[MOST_LEAVES];
        private final int[] kept = new int[ALL_ORDERS];
        private final int[] firstKept = new int[MOST_LEAVES + 1];
        private final int[] many = new int[MOST_LEAVES + 1];
        private int used;

        boolean areOrder(Shelf row, int n) {
            int seen = 0;
            for (int i = 0; i < n; i++) {
                int leaf = row.asInt(i);
                if (leaf < 0 || leaf >= n) {
                    return false;
                }
                seen |= 1 << leaf;
            }
            return seen == (1 << n) - 1;
        }

        boolean canLie(Shelf order, int n) {
            clear();
            for (int place = 0; place < n; place++) {
                if (!lays(order.asInt(place), place, n)) {
                    return false;
                }
            }
            return true;
        }

        int howMany(int n) {
            if (n < 1 || n >= many.length) {
                return 0;
            }
            if (many[n] == 0) {
                clear();
                firstKept[n] = used;
                layFrom(this, n, 0);
                many[n] = used - firstKept[n];
            }
            return many[n];
        }

        int leafOf(int n, int i, int place) {
            if (i < 0 || i >= howMany(n) || place < 0 || place >= n || firstKept[n] + i >= kept.length) {
                return NONE;
            }
            return (kept[firstKept[n] + i] >> (LEAF_BITS * place)) & (MOST_LEAVES - 1);
        }

        /** Lays the leaves that are left at the places from this one on, in every way that can be. */
        private static void layFrom(Leaves leaves, int n, int place) {
            if (place >= n) {
                leaves.keep(n);
                return;
            }
            for (int leaf = 0; leaf < n; leaf++) {
                if (leaves.placeOf[leaf] == NONE) {
                    if (leaves.lays(leaf, place, n)) {
                        layFrom(leaves, n, place + 1);
                    }
                    leaves.placeOf[leaf] = NONE;
                }
            }
        }

        private void keep(int n) {
            if (used >= kept.length) {
                return;
            }
            int packed = 0;
            for (int place = 0; place < n; place++) {
                packed |= at[place] << (LEAF_BITS * place);
            }
            kept[used] = packed;
            used++;
        }

        private void clear() {
            Arrays.fill(placeOf, NONE);
        }

        private boolean lays(int leaf, int place, int n) {
            if (leaf < 0 || leaf >= placeOf.length || place < 0 || place >= at.length) {
                return false;
            }
            at[place] = leaf;
            placeOf[leaf] = place;
            return closes(place, 0, n) && closes(place, 1, n);
        }

        /** Whether the fold that ends at this place, if one does, crosses none of its own side. */
        private boolean closes(int place, int side, int n) {
            int mate = mateOf(at[place], side, n);
            if (mate == NONE || placeOf[mate] == NONE) {
                return true;
            }
            int begin = placeOf[mate];
            for (int between = begin + 1; between < place; between++) {
                int other = mateOf(at[between], side, n);
                // One that is not laid yet (NONE) will come outside as well.
                if (other != NONE && placeOf[other] < begin) {
                    return false;
                }
            }
            return true;
        }

        /** The leaf that a fold of this side (0: between i and i + 1, i even) joins to a leaf. */
        private static int mateOf(int leaf, int side, int n) {
            int mate = ((leaf + side) ^ 1) - side;
            return mate >= 0 && mate < n ? mate : NONE;
        }
    }
}
