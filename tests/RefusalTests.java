import java.util.ArrayList;
import java.util.List;
import java.util.function.ToLongFunction;

/**
 * Every refusal of every call: which number, which comes first where two fit, that it is counted once, and that nothing
 * else changes. Each row is one call on a desk of its own, laid out by desk(), full() or bare().
 */
public final class RefusalTests {
    private static final int MIN = Integer.MIN_VALUE;
    private static final int MAX = Integer.MAX_VALUE;
    private static final long NO_PLACE = -2000000000000000L;

    // What the shelves of desk() and full() hold.
    private static final int TOLD = 0;
    private static final int SHOWN = 1;
    private static final int BARE = 2;
    private static final int SHORTS = 3;
    private static final int TEXT = 4;
    private static final int EMPTY = 5;
    private static final int INTS = 6;
    private static final int LONGS = 7;
    private static final int TOLD_SIZE = 66;

    // The strips of desk().
    private static final int PLAIN = 0;
    private static final int LEFT = 1;
    private static final int LONG_ONE = 2;
    private static final int BACK = 3;
    private static final int NO_STRIP = 4;

    private static int wrong = 0;
    private static int row = 0;
    private static String call = "";

    private interface Maker {
        FoldedInHalf make();
    }

    public static void main(String[] args) {
        rows();
        sets();
        copies();
        shows();
        sayings();
        strips();
        stripsOf();
        turns();
        reads();
        creasesAndWays();
        places();
        walks();
        whens();
        nears();
        fours();
        words();
        toldOnes();
        judges();
        ends();
        pieces();
        cans();
        orders();
        pages();
        dropsAndRestores();
        neverRefused();
        System.out.println(wrong == 0 ? "all answers are as due" : wrong + " answers are not as due");
        if (wrong != 0) {
            System.exit(1);
        }
    }

    private static void of(String name) {
        call = name;
        row = 0;
    }

    private static void tell(String what) {
        wrong++;
        System.out.println(call + ", row " + row + ": " + what);
    }

    private static void put(FoldedInHalf x, int s, int sort, int n, long... values) {
        x.row(s, sort, n);
        for (int i = 0; i < values.length; i++) {
            x.set(s, i, values[i]);
        }
    }

    private static void text(FoldedInHalf x, int s, String text) {
        long[] values = new long[text.length()];
        for (int i = 0; i < values.length; i++) {
            values[i] = text.charAt(i);
        }
        put(x, s, 0, values.length, values);
    }

    /** Four strips (one is turned once THE IMAGE is taken), a FAULT, a TRACE, and a shelf of each sort. */
    private static FoldedInHalf desk() {
        FoldedInHalf x = new FoldedInHalf();
        text(x, TEXT, "strip 0 5 lrl;strip 6 2 rlrlrlrlrlrlrlrlr;strip 1 3 rrrrrrrrrrrrr;strip 4 4 lrl");
        x.read(TEXT);
        text(x, TEXT, "turn 0 2;z");
        x.read(TEXT);
        x.image();
        x.turn(PLAIN, 1);
        x.act(BACK, 2, 5);
        put(x, TOLD, 2, TOLD_SIZE, 1, 1, 1);
        x.show(SHOWN, PLAIN);
        put(x, SHORTS, 1, 2, 1, 1);
        x.row(EMPTY, 0, 0);
        put(x, INTS, 2, 3, 7, 8, 9);
        put(x, LONGS, 3, 2, 1L << 40, -1);
        return x;
    }

    private static FoldedInHalf full() {
        FoldedInHalf x = desk();
        put(x, INTS, 2, 3, 1, 0, 1);
        while (x.status(0) < 8) {
            x.strip(0, 0, INTS, 2);
        }
        return x;
    }

    private static FoldedInHalf bare() {
        return new FoldedInHalf();
    }

    /** All that can be seen but the counts of refusals; at last what THE IMAGE has. */
    private static List<Long> seen(FoldedInHalf x) {
        List<Long> all = new ArrayList<>();
        all.add((long) x.fault());
        for (int i = 0; i < 10; i++) {
            all.add((long) x.trace(i));
        }
        all.add((long) x.status(3));
        for (int s = 0; s < 8; s++) {
            all.add((long) x.holds(s));
            for (int i = 0; i < 12; i++) {
                all.add(x.element(s, i));
            }
        }
        strips(x, all);
        all.add((long) x.restore());
        strips(x, all);
        return all;
    }

    private static void strips(FoldedInHalf x, List<Long> all) {
        for (int what = 0; what <= 2; what++) {
            all.add((long) x.status(what));
        }
        for (int strip = 0; strip < x.status(0); strip++) {
            for (int what = 0; what <= 2; what++) {
                all.add((long) x.stripOf(strip, what));
            }
            for (int level = 0; level < x.stripOf(strip, 2); level++) {
                all.add((long) x.stripOf(strip, 10 + level));
            }
        }
    }

    private static void refused(long answer, Maker maker, ToLongFunction<FoldedInHalf> asked, boolean exceptFault) {
        row++;
        FoldedInHalf x = maker.make();
        FoldedInHalf untouched = maker.make();
        int[] before = new int[7];
        for (int i = 0; i < 7; i++) {
            before[i] = x.status(11 + i);
        }
        long got = asked.applyAsLong(x);
        if (got != answer) {
            tell("answered " + got + ", due is " + answer);
        }
        int why = (int) -((answer <= NO_PLACE ? answer - NO_PLACE : answer) % 10);
        for (int i = 0; i < 7; i++) {
            int due = before[i] + (i + 1 == why ? 1 : 0);
            if (x.status(11 + i) != due) {
                tell("refusals -" + (i + 1) + ": " + x.status(11 + i) + ", due is " + due);
            }
        }
        List<Long> now = seen(x);
        List<Long> then = seen(untouched);
        if (exceptFault) {
            now.set(0, then.get(0));
        }
        if (!now.equals(then)) {
            tell("something changed: " + now + ", it was " + then);
        }
    }

    private static void refused(long answer, ToLongFunction<FoldedInHalf> asked) {
        refused(answer, RefusalTests::desk, asked, false);
    }

    private static void refusedOfFull(long answer, ToLongFunction<FoldedInHalf> asked) {
        refused(answer, RefusalTests::full, asked, false);
    }

    private static void refusedOfBare(long answer, ToLongFunction<FoldedInHalf> asked) {
        refused(answer, RefusalTests::bare, asked, false);
    }

    private static void answered(long answer, ToLongFunction<FoldedInHalf> asked) {
        row++;
        FoldedInHalf x = desk();
        int[] before = new int[7];
        for (int i = 0; i < 7; i++) {
            before[i] = x.status(11 + i);
        }
        long got = asked.applyAsLong(x);
        if (got != answer) {
            tell("answered " + got + ", due is " + answer);
        }
        for (int i = 0; i < 7; i++) {
            if (x.status(11 + i) != before[i]) {
                tell("refusals -" + (i + 1) + " were counted");
            }
        }
    }

    // Promise 2: -1; -4; -6 SORT; -7 n above 160.
    private static void rows() {
        of("row");
        refused(-1, x -> x.row(8, 0, 1));
        refused(-1, x -> x.row(-1, 0, 1));
        refused(-1, x -> x.row(MAX, 0, 1));
        refused(-1, x -> x.row(MIN, 0, 1));
        refused(-4, x -> x.row(TOLD, 0, -1));
        refused(-4, x -> x.row(TOLD, 0, MIN));
        refused(-6, x -> x.row(TOLD, 4, 1));
        refused(-6, x -> x.row(TOLD, -1, 1));
        refused(-6, x -> x.row(BARE, MAX, 1));
        refused(-6, x -> x.row(BARE, MIN, 1));
        refused(-7, x -> x.row(TOLD, 0, 161));
        refused(-7, x -> x.row(SHOWN, 3, MAX));
        of("row, the first that fits");
        refused(-1, x -> x.row(8, 0, -1));
        refused(-1, x -> x.row(8, 4, 1));
        refused(-1, x -> x.row(-1, 0, 161));
        refused(-4, x -> x.row(TOLD, 4, -1));
        refused(-6, x -> x.row(TOLD, 4, 161));
    }

    // Promise 3: -1; -2; -3; -5.
    private static void sets() {
        of("set");
        refused(-1, x -> x.set(8, 0, 1));
        refused(-1, x -> x.set(-1, 0, 1));
        refused(-2, x -> x.set(SHOWN, 0, 1));
        refused(-3, x -> x.set(BARE, 0, 1));
        refused(-5, x -> x.set(INTS, 3, 1));
        refused(-5, x -> x.set(INTS, -1, 1));
        refused(-5, x -> x.set(INTS, MAX, 1));
        refused(-5, x -> x.set(INTS, MIN, 1));
        refused(-5, x -> x.set(EMPTY, 0, 1));
        of("set, the first that fits");
        refused(-1, x -> x.set(8, -1, 1));
        refused(-2, x -> x.set(SHOWN, -1, 1));
        refused(-3, x -> x.set(BARE, -1, 1));
    }

    // Promise 4: -1; -2 also of two SORTS (when both hold something); -3 either; -4 n; -5.
    private static void copies() {
        of("copy");
        refused(-1, x -> x.copy(8, TOLD, 0, 0, 1));
        refused(-1, x -> x.copy(TOLD, 8, 0, 0, 1));
        refused(-1, x -> x.copy(-1, TOLD, 0, 0, 1));
        refused(-1, x -> x.copy(TOLD, -1, 0, 0, 1));
        refused(-2, x -> x.copy(SHOWN, TOLD, 0, 0, 1));
        refused(-2, x -> x.copy(TOLD, SHOWN, 0, 0, 1));
        refused(-2, x -> x.copy(SHOWN, SHOWN, 0, 0, 0));
        refused(-2, x -> x.copy(INTS, SHORTS, 0, 0, 1));
        refused(-2, x -> x.copy(LONGS, INTS, 0, 0, 1));
        refused(-2, x -> x.copy(EMPTY, INTS, 0, 0, 0));
        refused(-3, x -> x.copy(BARE, TOLD, 0, 0, 1));
        refused(-3, x -> x.copy(TOLD, BARE, 0, 0, 1));
        refused(-3, x -> x.copy(BARE, BARE, 0, 0, 0));
        refused(-4, x -> x.copy(INTS, TOLD, 0, 0, -1));
        refused(-4, x -> x.copy(INTS, TOLD, 0, 0, MIN));
        refused(-5, x -> x.copy(INTS, TOLD, -1, 0, 1));
        refused(-5, x -> x.copy(INTS, TOLD, 0, -1, 1));
        refused(-5, x -> x.copy(INTS, TOLD, -1, 0, 0));
        refused(-5, x -> x.copy(INTS, TOLD, 0, -1, 0));
        refused(-5, x -> x.copy(INTS, TOLD, MIN, 0, 1));
        refused(-5, x -> x.copy(INTS, TOLD, 0, MIN, 1));
        refused(-5, x -> x.copy(INTS, TOLD, 0, 0, 4));
        refused(-5, x -> x.copy(INTS, TOLD, 3, 0, 1));
        refused(-5, x -> x.copy(INTS, TOLD, 4, 0, 0));
        refused(-5, x -> x.copy(TOLD, INTS, 0, 0, 4));
        refused(-5, x -> x.copy(TOLD, INTS, 0, 3, 1));
        refused(-5, x -> x.copy(TOLD, INTS, 0, 4, 0));
        refused(-5, x -> x.copy(INTS, TOLD, MAX, 0, 1));
        refused(-5, x -> x.copy(INTS, TOLD, 1, 0, MAX));
        refused(-5, x -> x.copy(INTS, TOLD, 0, MAX, MAX));
        refused(-5, x -> x.copy(EMPTY, EMPTY, 0, 0, 1));
        of("copy, the first that fits");
        refused(-1, x -> x.copy(SHOWN, 8, 0, 0, 1));
        refused(-1, x -> x.copy(8, SHOWN, 0, 0, 1));
        refused(-1, x -> x.copy(BARE, -1, 0, 0, 1));
        refused(-1, x -> x.copy(INTS, 8, 0, 0, -1));
        refused(-2, x -> x.copy(SHOWN, BARE, 0, 0, 1));
        refused(-2, x -> x.copy(BARE, SHOWN, 0, 0, 1));
        refused(-2, x -> x.copy(INTS, LONGS, 0, 0, -1));
        refused(-2, x -> x.copy(INTS, SHORTS, 9, -1, 1));
        refused(-3, x -> x.copy(BARE, INTS, 0, 0, -1));
        refused(-3, x -> x.copy(INTS, BARE, -1, 0, 1));
        refused(-4, x -> x.copy(INTS, TOLD, -1, 99, -1));
    }

    // Promise 6: -1.
    private static void shows() {
        of("show");
        refused(-1, x -> x.show(8, PLAIN));
        refused(-1, x -> x.show(-1, PLAIN));
        refused(-1, x -> x.show(8, -1));
        refused(-1, x -> x.show(INTS, NO_STRIP));
        refused(-1, x -> x.show(INTS, -2));
        refused(-1, x -> x.show(INTS, 8));
        refused(-1, x -> x.show(INTS, MAX));
        refused(-1, x -> x.show(INTS, MIN));
        refused(-1, x -> x.show(INTS, 100));
        refusedOfFull(-1, x -> x.show(INTS, 8));
        refusedOfBare(-1, x -> x.show(INTS, 0));
    }

    // Promise 8: -1 SHELF, KIND; -2 also a STRIP of another KIND; -3.
    private static void sayings() {
        of("says");
        refused(-1, x -> x.says(8, 0));
        refused(-1, x -> x.says(-1, 0));
        refused(-1, x -> x.says(SHOWN, 7));
        refused(-1, x -> x.says(SHOWN, -1));
        refused(-1, x -> x.says(SHOWN, MIN));
        refused(-2, x -> x.says(TOLD, 0));
        refused(-2, x -> x.says(EMPTY, 0));
        refused(-3, x -> x.says(BARE, 0));
        for (int kind = 1; kind <= 6; kind++) {
            int wanted = kind;
            refused(-2, x -> x.says(SHOWN, wanted));
        }
        of("says, the first that fits");
        refused(-1, x -> x.says(TOLD, 7));
        refused(-1, x -> x.says(BARE, -1));
        refused(-3, x -> x.says(BARE, 6));
    }

    // Promise 9: -1 SHELF, KIND; -2; -3; -4 n; -5 fewer elements; -6 n not 1 to 40 (THIRD 25), a; -7.
    private static void strips() {
        of("strip");
        refused(-1, x -> x.strip(0, 0, 8, 1));
        refused(-1, x -> x.strip(0, 0, -1, 1));
        refused(-1, x -> x.strip(7, 0, TOLD, 1));
        refused(-1, x -> x.strip(-1, 0, TOLD, 1));
        refused(-2, x -> x.strip(0, 0, SHOWN, 1));
        refused(-3, x -> x.strip(0, 0, BARE, 1));
        refused(-4, x -> x.strip(0, 0, TOLD, -1));
        refused(-4, x -> x.strip(0, 0, TOLD, MIN));
        refused(-5, x -> x.strip(0, 0, INTS, 4));
        refused(-5, x -> x.strip(0, 0, EMPTY, 1));
        refused(-5, x -> x.strip(0, 0, INTS, MAX));
        refused(-6, x -> x.strip(0, 0, INTS, 0));
        refused(-6, x -> x.strip(0, 0, EMPTY, 0));
        for (int kind = 0; kind <= 6; kind++) {
            int made = kind;
            refused(-6, x -> x.strip(made, 0, TOLD, 41));
        }
        refused(-6, x -> x.strip(2, 0, TOLD, 26));
        refused(-6, x -> x.strip(0, -1, INTS, 1));
        refused(-6, x -> x.strip(0, 1000000, INTS, 1));
        refused(-6, x -> x.strip(0, MIN, INTS, 1));
        refused(-6, x -> x.strip(0, MAX, INTS, 1));
        refusedOfFull(-7, x -> x.strip(0, 0, INTS, 1));
        refusedOfFull(-7, x -> x.strip(6, 999999, TOLD, 40));
        of("strip, the first that fits");
        refused(-1, x -> x.strip(7, 0, SHOWN, 1));
        refused(-1, x -> x.strip(7, 0, BARE, 1));
        refused(-1, x -> x.strip(7, -1, TOLD, -1));
        refused(-2, x -> x.strip(0, 0, SHOWN, -1));
        refused(-2, x -> x.strip(0, -1, SHOWN, 1));
        refused(-3, x -> x.strip(0, 0, BARE, -1));
        refused(-3, x -> x.strip(0, 0, BARE, 41));
        refused(-4, x -> x.strip(0, -1, TOLD, -1));
        refused(-5, x -> x.strip(0, 0, INTS, 41));
        refused(-5, x -> x.strip(0, 1000000, INTS, 4));
        refusedOfFull(-1, x -> x.strip(7, 0, INTS, 1));
        refusedOfFull(-2, x -> x.strip(0, 0, SHOWN, 1));
        refusedOfFull(-3, x -> x.strip(0, 0, BARE, 1));
        refusedOfFull(-4, x -> x.strip(0, 0, INTS, -1));
        refusedOfFull(-5, x -> x.strip(0, 0, INTS, 4));
        refusedOfFull(-6, x -> x.strip(0, 0, INTS, 0));
        refusedOfFull(-6, x -> x.strip(0, -1, INTS, 1));
    }

    // Promise 10: -5: no such one, another what.
    private static void stripsOf() {
        of("stripOf");
        refused(-5, x -> x.stripOf(NO_STRIP, 0));
        refused(-5, x -> x.stripOf(-1, 0));
        refused(-5, x -> x.stripOf(8, 10));
        refused(-5, x -> x.stripOf(MAX, 0));
        refused(-5, x -> x.stripOf(MIN, 0));
        refused(-5, x -> x.stripOf(PLAIN, -1));
        refused(-5, x -> x.stripOf(PLAIN, 3));
        refused(-5, x -> x.stripOf(PLAIN, 9));
        refused(-5, x -> x.stripOf(PLAIN, 13));
        refused(-5, x -> x.stripOf(PLAIN, MAX));
        refused(-5, x -> x.stripOf(PLAIN, MIN));
        refusedOfBare(-5, x -> x.stripOf(0, 0));
    }

    // Promise 11: -1; -5.
    private static void turns() {
        of("turn");
        refused(-1, x -> x.turn(NO_STRIP, 0));
        refused(-1, x -> x.turn(-1, 0));
        refused(-1, x -> x.turn(8, 0));
        refused(-5, x -> x.turn(PLAIN, 3));
        refused(-5, x -> x.turn(PLAIN, -1));
        refused(-5, x -> x.turn(PLAIN, MAX));
        refused(-5, x -> x.turn(PLAIN, MIN));
        of("turn, the first that fits");
        refused(-1, x -> x.turn(NO_STRIP, -1));
    }

    // Promise 12: -1; -2; -3; -6 a FAULT. A FAULT itself is what fault() tells; no other one touches it.
    private static void reads() {
        of("read");
        refused(-1, x -> x.read(8));
        refused(-1, x -> x.read(-1));
        refused(-2, x -> x.read(SHOWN));
        refused(-3, x -> x.read(BARE));
        refused(-6, RefusalTests::desk, x -> x.read(TEXT), true);
        refused(-6, RefusalTests::desk, x -> x.read(EMPTY), true);
        refused(-6, RefusalTests::desk, x -> x.read(LONGS), true);
    }

    // Promise 14: -1. Promises 15, 16: -1; -5 no such (SIDE).
    private static void creasesAndWays() {
        of("creases");
        refused(-1, x -> x.creases(NO_STRIP));
        refused(-1, x -> x.creases(-1));
        refused(-1, x -> x.creases(MAX));
        of("crease");
        refused(-1, x -> x.crease(NO_STRIP, 1));
        refused(-1, x -> x.crease(-1, 1));
        refused(-5, x -> x.crease(PLAIN, 0));
        refused(-5, x -> x.crease(PLAIN, -1));
        refused(-5, x -> x.crease(PLAIN, 8));
        refused(-5, x -> x.crease(BACK, 4));
        refused(-5, x -> x.crease(PLAIN, Long.MAX_VALUE));
        refused(-5, x -> x.crease(PLAIN, Long.MIN_VALUE));
        refused(-5, x -> x.crease(PLAIN, (1L << 32) + 1));
        refused(-1, x -> x.crease(NO_STRIP, 0));
        of("way");
        refused(-1, x -> x.way(NO_STRIP, 1));
        refused(-1, x -> x.way(-1, 1));
        refused(-5, x -> x.way(PLAIN, 0));
        refused(-5, x -> x.way(PLAIN, -1));
        refused(-5, x -> x.way(PLAIN, 9));
        refused(-5, x -> x.way(BACK, 5));
        refused(-5, x -> x.way(PLAIN, Long.MAX_VALUE));
        refused(-5, x -> x.way(PLAIN, Long.MIN_VALUE));
        refused(-5, x -> x.way(PLAIN, (1L << 32) + 1));
        refused(-1, x -> x.way(NO_STRIP, 0));
    }

    // Promise 17: ..1; ..5 no such, another what; of a LEFT n is 100,000 at most (..7).
    private static void places() {
        of("place");
        refused(NO_PLACE - 1, x -> x.place(NO_STRIP, 0, 0));
        refused(NO_PLACE - 1, x -> x.place(-1, 0, 1));
        refused(NO_PLACE - 5, x -> x.place(PLAIN, -1, 0));
        refused(NO_PLACE - 5, x -> x.place(PLAIN, 9, 0));
        refused(NO_PLACE - 5, x -> x.place(BACK, 5, 1));
        refused(NO_PLACE - 5, x -> x.place(PLAIN, Long.MAX_VALUE, 0));
        refused(NO_PLACE - 5, x -> x.place(PLAIN, Long.MIN_VALUE, 0));
        refused(NO_PLACE - 5, x -> x.place(PLAIN, 1L << 32, 0));
        refused(NO_PLACE - 5, x -> x.place(PLAIN, 0, 2));
        refused(NO_PLACE - 5, x -> x.place(PLAIN, 0, -1));
        refused(NO_PLACE - 7, x -> x.place(LEFT, 100001, 0));
        refused(NO_PLACE - 7, x -> x.place(LEFT, 131072, 1));
        of("place, the first that fits");
        refused(NO_PLACE - 1, x -> x.place(NO_STRIP, -1, 0));
        refused(NO_PLACE - 1, x -> x.place(NO_STRIP, 0, 2));
        refused(NO_PLACE - 5, x -> x.place(LEFT, 131073, 0));
        refused(NO_PLACE - 5, x -> x.place(LEFT, 100001, 2));
    }

    // Promises 18 to 21: -1; -5 not so many SIDES; -6 n.
    private static void walks() {
        of("passed");
        refused(-1, x -> x.passed(NO_STRIP, 0, 0, 0));
        refused(-1, x -> x.passed(-1, 0, 0, 0));
        refused(-5, x -> x.passed(PLAIN, 9, 0, 0));
        refused(-6, x -> x.passed(PLAIN, -1, 0, 0));
        refused(-6, x -> x.passed(PLAIN, MIN, 0, 0));
        refused(-6, x -> x.passed(LONG_ONE, 4001, 0, 0));
        refused(-1, x -> x.passed(NO_STRIP, -1, 0, 0));
        refused(-5, x -> x.passed(LONG_ONE, 8193, 0, 0));
        refused(-5, x -> x.passed(PLAIN, 4001, 0, 0));
        of("most");
        refused(-1, x -> x.most(NO_STRIP, 0));
        refused(-1, x -> x.most(-1, 0));
        refused(-5, x -> x.most(PLAIN, 9));
        refused(-6, x -> x.most(PLAIN, -1));
        refused(-6, x -> x.most(LONG_ONE, 4001));
        refused(-1, x -> x.most(NO_STRIP, -1));
        refused(-5, x -> x.most(LONG_ONE, 8193));
        of("twice");
        refused(-1, x -> x.twice(NO_STRIP, 0));
        refused(-1, x -> x.twice(-1, 0));
        refused(-5, x -> x.twice(PLAIN, 9));
        refused(-6, x -> x.twice(PLAIN, -1));
        refused(-6, x -> x.twice(LONG_ONE, 4001));
        refused(-1, x -> x.twice(NO_STRIP, -1));
        refused(-5, x -> x.twice(LONG_ONE, 8193));
        of("cover");
        refused(-1, x -> x.cover(NO_STRIP, 0));
        refused(-1, x -> x.cover(-1, 0));
        refused(-5, x -> x.cover(PLAIN, 9));
        refused(-6, x -> x.cover(PLAIN, -1));
        refused(-6, x -> x.cover(LONG_ONE, 4001));
        refused(-1, x -> x.cover(NO_STRIP, -1));
        refused(-5, x -> x.cover(LONG_ONE, 8193));
    }

    // Promise 22: -11; -15 i below 0 (counted as -1, -5).
    private static void whens() {
        of("when");
        refused(-11, x -> x.when(NO_STRIP, 0, 0, 0));
        refused(-11, x -> x.when(-1, 0, 0, 0));
        refused(-15, x -> x.when(PLAIN, 0, 0, -1));
        refused(-15, x -> x.when(PLAIN, 0, 0, MIN));
        refused(-11, x -> x.when(NO_STRIP, 0, 0, -1));
        answered(-1, x -> x.when(PLAIN, 0, 0, MAX));
        answered(-1, x -> x.when(PLAIN, MIN, MIN, 0));
    }

    // Promise 23: -1 either; -5 not so many SIDES, another what; -6.
    private static void nears() {
        of("near");
        refused(-1, x -> x.near(NO_STRIP, PLAIN, 0, 0, 0, 0));
        refused(-1, x -> x.near(PLAIN, NO_STRIP, 0, 0, 0, 0));
        refused(-1, x -> x.near(-1, PLAIN, 0, 0, 0, 0));
        refused(-1, x -> x.near(PLAIN, -1, 0, 0, 0, 0));
        refused(-5, x -> x.near(PLAIN, LONG_ONE, 9, 0, 0, 0));
        refused(-5, x -> x.near(LONG_ONE, PLAIN, 9, 0, 0, 0));
        refused(-5, x -> x.near(PLAIN, PLAIN, 8, 0, 0, 2));
        refused(-5, x -> x.near(PLAIN, PLAIN, 8, 0, 0, -1));
        refused(-6, x -> x.near(LONG_ONE, LEFT, 4001, 0, 0, 0));
        refused(-6, x -> x.near(PLAIN, PLAIN, -1, 0, 0, 0));
        refused(-6, x -> x.near(PLAIN, PLAIN, 8, 101, 0, 0));
        refused(-6, x -> x.near(PLAIN, PLAIN, 8, -101, 0, 0));
        refused(-6, x -> x.near(PLAIN, PLAIN, 8, 0, 101, 0));
        refused(-6, x -> x.near(PLAIN, PLAIN, 8, 0, -101, 0));
        refused(-6, x -> x.near(PLAIN, PLAIN, 8, MIN, 0, 0));
        refused(-6, x -> x.near(PLAIN, PLAIN, 8, 0, MAX, 1));
        of("near, the first that fits");
        refused(-1, x -> x.near(PLAIN, NO_STRIP, 9, 0, 0, 0));
        refused(-1, x -> x.near(NO_STRIP, PLAIN, 9, 0, 0, 2));
        refused(-1, x -> x.near(PLAIN, NO_STRIP, -1, 101, 0, 0));
        refused(-5, x -> x.near(PLAIN, LONG_ONE, 9, 101, 0, 0));
        refused(-5, x -> x.near(LONG_ONE, PLAIN, 4001, 0, 0, 0));
        refused(-5, x -> x.near(PLAIN, PLAIN, -1, 0, 0, 2));
        refused(-5, x -> x.near(PLAIN, PLAIN, 8, 0, 101, 2));
    }

    // Promise 24: -1; -5; -6 (n 0 to 1000).
    private static void fours() {
        of("four");
        refused(-1, x -> x.four(NO_STRIP, 0));
        refused(-1, x -> x.four(-1, 0));
        refused(-5, x -> x.four(PLAIN, 9));
        refused(-6, x -> x.four(PLAIN, -1));
        refused(-6, x -> x.four(PLAIN, MIN));
        refused(-6, x -> x.four(LONG_ONE, 1001));
        refused(-1, x -> x.four(NO_STRIP, -1));
        refused(-5, x -> x.four(PLAIN, 1001));
        refused(-5, x -> x.four(LONG_ONE, 8193));
    }

    // Promise 25: -11; -12; -13; -14 n; -15 fewer elements, no such LEVEL, no WORD fits (not for NONE); -16 n above 63.
    private static void words() {
        of("words");
        refused(-11, x -> x.words(8, 1, 0));
        refused(-11, x -> x.words(-1, 1, -1));
        refused(-12, x -> x.words(SHOWN, 1, 0));
        refused(-13, x -> x.words(BARE, 1, 0));
        refused(-14, x -> x.words(TOLD, -1, 0));
        refused(-14, x -> x.words(TOLD, MIN, -1));
        refused(-15, x -> x.words(INTS, 4, 0));
        refused(-15, x -> x.words(INTS, 4, -1));
        refused(-15, x -> x.words(TOLD, MAX, -1));
        refused(-15, x -> x.words(TOLD, 2, 2));
        refused(-15, x -> x.words(TOLD, 2, -2));
        refused(-15, x -> x.words(TOLD, 2, MAX));
        refused(-15, x -> x.words(TOLD, 2, MIN));
        refused(-15, x -> x.words(TOLD, 0, 0));
        refused(-15, x -> x.words(TOLD, 3, 0));
        refused(-15, x -> x.words(TOLD, 3, 1));
        answered(-1, x -> x.words(TOLD, 3, -1));
        refused(-16, x -> x.words(TOLD, 64, 0));
        refused(-16, x -> x.words(TOLD, 64, -1));
        of("words, the first that fits");
        refused(-11, x -> x.words(8, -1, -2));
        refused(-12, x -> x.words(SHOWN, -1, 0));
        refused(-12, x -> x.words(SHOWN, 64, -2));
        refused(-13, x -> x.words(BARE, -1, 0));
        refused(-13, x -> x.words(BARE, 64, -2));
        refused(-14, x -> x.words(TOLD, -1, -2));
        refused(-15, x -> x.words(INTS, 64, 0));
        of("words(): n above 63 (-16) ahead of a LEVEL that is none (-15)");
        refused(-16, x -> x.words(TOLD, 64, 7));
        refused(-16, x -> x.words(TOLD, 64, -2));
        refused(-16, x -> x.words(TOLD, TOLD_SIZE, MAX));
    }

    // Promise 26: -11; -12; -13; -14; -15 fewer elements; -16. Promise 27: -1; -2; -3; -4; -5 fewer elements; -6.
    private static void toldOnes() {
        of("wrong");
        refused(-11, x -> x.wrong(8, 1));
        refused(-11, x -> x.wrong(-1, 1));
        refused(-12, x -> x.wrong(SHOWN, 1));
        refused(-13, x -> x.wrong(BARE, 1));
        refused(-14, x -> x.wrong(TOLD, -1));
        refused(-15, x -> x.wrong(INTS, 4));
        refused(-15, x -> x.wrong(TOLD, MAX));
        refused(-16, x -> x.wrong(TOLD, 64));
        refused(-11, x -> x.wrong(8, -1));
        refused(-12, x -> x.wrong(SHOWN, -1));
        refused(-13, x -> x.wrong(BARE, -1));
        refused(-15, x -> x.wrong(INTS, 64));
        of("mend");
        refused(-1, x -> x.mend(8, 1));
        refused(-1, x -> x.mend(-1, 1));
        refused(-2, x -> x.mend(SHOWN, 1));
        refused(-3, x -> x.mend(BARE, 1));
        refused(-4, x -> x.mend(TOLD, -1));
        refused(-5, x -> x.mend(INTS, 4));
        refused(-5, x -> x.mend(TOLD, MAX));
        refused(-6, x -> x.mend(TOLD, 64));
        refused(-1, x -> x.mend(8, -1));
        refused(-2, x -> x.mend(SHOWN, -1));
        refused(-3, x -> x.mend(BARE, -1));
        refused(-5, x -> x.mend(INTS, 64));
    }

    // Promise 28: -11 STRIP, SHELF; -12; -13; -14; -15 fewer elements, CREASES; -16 n above 63.
    private static void judges() {
        of("judge");
        refused(-11, x -> x.judge(NO_STRIP, TOLD, 1));
        refused(-11, x -> x.judge(-1, TOLD, 1));
        refused(-11, x -> x.judge(PLAIN, 8, 1));
        refused(-11, x -> x.judge(PLAIN, -1, 1));
        refused(-12, x -> x.judge(PLAIN, SHOWN, 1));
        refused(-13, x -> x.judge(PLAIN, BARE, 1));
        refused(-14, x -> x.judge(PLAIN, TOLD, -1));
        refused(-15, x -> x.judge(PLAIN, INTS, 4));
        refused(-15, x -> x.judge(PLAIN, TOLD, 8));
        refused(-15, x -> x.judge(BACK, TOLD, 4));
        refused(-15, x -> x.judge(LONG_ONE, TOLD, MAX));
        refused(-16, x -> x.judge(LONG_ONE, TOLD, 64));
        of("judge, the first that fits");
        refused(-11, x -> x.judge(NO_STRIP, SHOWN, 1));
        refused(-11, x -> x.judge(NO_STRIP, BARE, -1));
        refused(-11, x -> x.judge(NO_STRIP, TOLD, 64));
        refused(-12, x -> x.judge(PLAIN, SHOWN, -1));
        refused(-13, x -> x.judge(PLAIN, BARE, -1));
        refused(-15, x -> x.judge(LONG_ONE, INTS, 64));
        refused(-15, x -> x.judge(PLAIN, TOLD, 64));
    }

    // Promise 29: -5 another what, none (not for 0); -6 f.
    private static void ends() {
        of("ends");
        refused(-5, x -> x.ends(3, 2, 2, 2));
        refused(-5, x -> x.ends(3, 2, 2, -1));
        refused(-5, x -> x.ends(3, 50, 0, 1));
        refused(-5, x -> x.ends(1, MIN, MAX, 1));
        answered(0, x -> x.ends(3, 50, 0, 0));
        answered(0, x -> x.ends(1, MIN, MAX, 0));
        refused(-6, x -> x.ends(0, 1, 0, 0));
        refused(-6, x -> x.ends(-1, 1, 0, 0));
        refused(-6, x -> x.ends(11, 0, 32, 0));
        refused(-6, x -> x.ends(MAX, 0, 0, 0));
        refused(-6, x -> x.ends(MIN, 0, 0, 0));
        refused(-6, x -> x.ends(32, 0, 0, 1));
        of("ends, the first that fits");
        refused(-5, x -> x.ends(0, 1, 0, 2));
        refused(-5, x -> x.ends(11, 1, 0, -1));
    }

    // Promise 30: -1; -2; -3; -4; -5 fewer elements, another what, nowhere (not for 0); -6 n not 1 to 40.
    private static void pieces() {
        of("piece");
        refused(-1, x -> x.piece(NO_STRIP, TOLD, 1, 0));
        refused(-1, x -> x.piece(-1, TOLD, 1, 0));
        refused(-1, x -> x.piece(PLAIN, 8, 1, 0));
        refused(-1, x -> x.piece(PLAIN, -1, 1, 0));
        refused(-2, x -> x.piece(PLAIN, SHOWN, 1, 0));
        refused(-3, x -> x.piece(PLAIN, BARE, 1, 0));
        refused(-4, x -> x.piece(PLAIN, TOLD, -1, 0));
        refused(-5, x -> x.piece(PLAIN, INTS, 4, 0));
        refused(-5, x -> x.piece(PLAIN, TOLD, MAX, 0));
        refused(-5, x -> x.piece(PLAIN, INTS, 3, 2));
        refused(-5, x -> x.piece(PLAIN, INTS, 3, -1));
        refused(-5, x -> x.piece(BACK, TOLD, 3, 1));
        answered(0, x -> x.piece(BACK, TOLD, 3, 0));
        refused(-5, x -> x.piece(PLAIN, TOLD, 8, 1));
        answered(0, x -> x.piece(PLAIN, TOLD, 8, 0));
        refused(-6, x -> x.piece(PLAIN, INTS, 0, 0));
        refused(-6, x -> x.piece(PLAIN, EMPTY, 0, 1));
        refused(-6, x -> x.piece(LONG_ONE, TOLD, 41, 0));
        of("piece, the first that fits");
        refused(-1, x -> x.piece(NO_STRIP, SHOWN, 1, 0));
        refused(-1, x -> x.piece(NO_STRIP, BARE, 1, 0));
        refused(-1, x -> x.piece(NO_STRIP, TOLD, 41, 2));
        refused(-2, x -> x.piece(PLAIN, SHOWN, -1, 2));
        refused(-3, x -> x.piece(PLAIN, BARE, -1, 2));
        refused(-4, x -> x.piece(PLAIN, TOLD, -1, 2));
        refused(-5, x -> x.piece(PLAIN, INTS, 41, 0));
        refused(-5, x -> x.piece(PLAIN, TOLD, 41, 2));
        refused(-5, x -> x.piece(PLAIN, TOLD, 0, -1));
    }

    // Promise 31: -1; -2; -3; -4 n; -5 fewer elements; -6 n not 1 to 8, no ORDER.
    private static void cans() {
        of("can");
        refused(-1, x -> x.can(8, 1));
        refused(-1, x -> x.can(-1, 1));
        refused(-2, x -> x.can(SHOWN, 1));
        refused(-3, x -> x.can(BARE, 1));
        refused(-4, x -> x.can(TOLD, -1));
        refused(-5, x -> x.can(SHORTS, 3));
        refused(-5, x -> x.can(TOLD, MAX));
        refused(-6, x -> x.can(TOLD, 0));
        refused(-6, x -> x.can(EMPTY, 0));
        refused(-6, x -> x.can(TOLD, 9));
        refused(-6, x -> x.can(SHORTS, 2));
        refused(-6, x -> x.can(INTS, 3));
        of("can, the first that fits");
        refused(-1, x -> x.can(8, -1));
        refused(-2, x -> x.can(SHOWN, -1));
        refused(-2, x -> x.can(SHOWN, 9));
        refused(-3, x -> x.can(BARE, -1));
        refused(-3, x -> x.can(BARE, 9));
        refused(-5, x -> x.can(SHORTS, 9));
    }

    // Promise 32: -6. Promise 33: -5 no such; -6 n.
    private static void orders() {
        of("orders");
        refused(-6, x -> x.orders(0));
        refused(-6, x -> x.orders(9));
        refused(-6, x -> x.orders(-1));
        refused(-6, x -> x.orders(MAX));
        refused(-6, x -> x.orders(MIN));
        of("order");
        refused(-5, x -> x.order(3, 6, 0));
        refused(-5, x -> x.order(3, -1, 0));
        refused(-5, x -> x.order(3, 0, 3));
        refused(-5, x -> x.order(3, 0, -1));
        refused(-5, x -> x.order(1, 1, 0));
        refused(-5, x -> x.order(8, 1392, 0));
        refused(-5, x -> x.order(8, 0, 8));
        refused(-5, x -> x.order(8, MAX, 0));
        refused(-5, x -> x.order(8, MIN, 0));
        refused(-5, x -> x.order(8, 0, MAX));
        refused(-5, x -> x.order(8, 0, MIN));
        refused(-6, x -> x.order(0, 0, 0));
        refused(-6, x -> x.order(9, 0, 0));
        refused(-6, x -> x.order(MAX, 0, 0));
        refused(-6, x -> x.order(MIN, 0, 0));
        of("order, the first that fits");
        refused(-5, x -> x.order(9, -1, 0));
        refused(-5, x -> x.order(0, 0, -1));
    }

    // Promise 34: -5; -6 f.
    private static void pages() {
        of("page");
        for (int f = 1; f <= 6; f++) {
            int folds = f;
            refused(-5, x -> x.page(folds, 1 << folds));
            refused(-5, x -> x.page(folds, -1));
        }
        refused(-5, x -> x.page(6, MAX));
        refused(-5, x -> x.page(6, MIN));
        refused(-6, x -> x.page(0, 0));
        refused(-6, x -> x.page(7, 0));
        refused(-6, x -> x.page(-1, 0));
        refused(-6, x -> x.page(MAX, 0));
        refused(-6, x -> x.page(MIN, 0));
        refused(-6, x -> x.page(33, 0));
        of("page, the first that fits");
        refused(-5, x -> x.page(7, -1));
    }

    // Promise 35: -6 there is none. Promise 39: -6 there is none.
    private static void dropsAndRestores() {
        of("drop");
        refusedOfBare(-6, x -> x.drop());
        of("restore");
        refused(-6, RefusalTests::bare, x -> x.restore(), false);
        row++;
        FoldedInHalf x = new FoldedInHalf();
        put(x, TOLD, 2, 1, 1);
        x.strip(0, 0, TOLD, 1);
        x.show(SHOWN, 0);
        if (x.restore() != -6 || x.status(0) != 1 || x.holds(SHOWN) != 0 || x.status(16) != 1) {
            tell("restore() without an image took something away");
        }
    }

    // Promises 5, 7, 13, 36, 37, 38, 40: nothing is refused, so nothing is counted.
    private static void neverRefused() {
        of("element");
        answered(0, x -> x.element(8, 0));
        answered(0, x -> x.element(-1, 0));
        answered(0, x -> x.element(BARE, 0));
        answered(0, x -> x.element(SHOWN, 0));
        answered(0, x -> x.element(INTS, 3));
        answered(0, x -> x.element(INTS, -1));
        answered(0, x -> x.element(INTS, MAX));
        answered(0, x -> x.element(MIN, MIN));
        of("holds");
        answered(-1, x -> x.holds(8));
        answered(-1, x -> x.holds(-1));
        answered(-1, x -> x.holds(BARE));
        of("fault");
        answered(9, x -> x.fault());
        of("act");
        answered(0, x -> x.act(NO_STRIP, 0, 5));
        answered(0, x -> x.act(-1, 0, 5));
        answered(0, x -> x.act(PLAIN, 3, 5));
        answered(0, x -> x.act(PLAIN, -1, 5));
        of("trace");
        answered(-1, x -> x.trace(-1));
        answered(-1, x -> x.trace(8));
        answered(-1, x -> x.trace(MAX));
        of("image");
        answered(4, x -> x.image());
        of("status");
        answered(-1, x -> x.status(4));
        answered(-1, x -> x.status(10));
        answered(-1, x -> x.status(18));
        answered(-1, x -> x.status(-1));
        answered(-1, x -> x.status(MIN));
    }
}
