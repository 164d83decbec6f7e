import java.util.ArrayList;
import java.util.HashMap;
import java.util.HashSet;
import java.util.List;
import java.util.Map;
import java.util.Random;
import java.util.Set;

/** Compares the class with the plainest way: creases interleaved one by one, walks side by side, all words, all orders. */
public final class OracleTests {
    private static final Random DICE = new Random(20261118);
    private static final int[] STEP_X = {1, 0, -1, 0};
    private static final int[] STEP_Y = {0, 1, 0, -1};
    private static int wrong = 0;

    private static void due(String what, long want, long got) {
        if (want != got && ++wrong <= 40) {
            System.out.println(what + " answered " + got + ", due is " + want);
        }
    }

    public static void main(String[] args) {
        for (int i = 0; i < 400; i++) {
            shortStrip();
        }
        for (int i = 0; i < 60; i++) {
            farStrip();
        }
        for (int i = 0; i < 60; i++) {
            walks();
        }
        for (int i = 0; i < 150; i++) {
            told();
            pieces();
        }
        ends();
        for (int n = 1; n <= 8; n++) {
            orders(n);
        }
        System.out.println(wrong == 0 ? "all answers are as due" : wrong + " answers are not as due");
        if (wrong != 0) {
            System.exit(1);
        }
    }

    /** The creases of a strip, each level laid in between those of the next. */
    private static int[] creases(int kind, int a, int[] word) {
        int[] letters = word.clone();
        for (int i = 0; i < letters.length; i++) {
            if (kind == 1) {
                letters[i] = a % 2;
            } else if (kind == 5 || kind == 6) {
                letters[i] = 1 - letters[i];
            }
        }
        List<Integer> bends = new ArrayList<>();
        for (int level = letters.length - 1; level >= 0; level--) {
            List<Integer> more = new ArrayList<>();
            for (int i = 0; i <= bends.size(); i++) {
                if (kind == 2) {
                    more.add(letters[level]);
                    more.add(1 - letters[level]);
                } else {
                    more.add(i % 2 == 0 ? letters[level] : 1 - letters[level]);
                }
                if (i < bends.size()) {
                    more.add(bends.get(i));
                }
            }
            bends = more;
        }
        if (kind == 6) {
            for (int n = 4; n <= bends.size(); n += 4) {
                bends.set(n - 1, 1);
            }
        }
        if (kind == 3 || kind == 4) {
            bends = bends.subList(a % bends.size(), bends.size());
        }
        int[] all = new int[bends.size()];
        for (int i = 0; i < all.length; i++) {
            all[i] = kind == 4 ? 1 - bends.get(all.length - 1 - i) : bends.get(i);
        }
        return all;
    }

    /** x, y and the way of each place of a walk; the way of place n is that of side n. */
    private static int[][] walk(int[] creases, int x, int y, int way) {
        int[][] at = new int[creases.length + 2][3];
        at[0] = new int[] {x, y, way};
        int now = way;
        for (int n = 1; n < at.length; n++) {
            if (n > 1) {
                now = (now + (creases[n - 2] == 1 ? 1 : 3)) % 4;
            }
            at[n] = new int[] {at[n - 1][0] + STEP_X[now], at[n - 1][1] + STEP_Y[now], now};
        }
        return at;
    }

    private static int[] word(int levels) {
        int[] word = new int[levels];
        for (int i = 0; i < levels; i++) {
            word[i] = DICE.nextInt(2);
        }
        return word;
    }

    private static int make(FoldedInHalf x, int kind, int a, int[] word) {
        x.row(0, DICE.nextInt(4), word.length);
        for (int i = 0; i < word.length; i++) {
            x.set(0, i, word[i] + 2 * DICE.nextInt(5));
        }
        return x.strip(kind, a, 0, word.length);
    }

    private static void shortStrip() {
        int kind = DICE.nextInt(7);
        int a = DICE.nextInt(4) == 0 ? DICE.nextInt(1000000) : DICE.nextInt(40);
        int[] word = word(1 + DICE.nextInt(kind == 2 ? 5 : 8));
        FoldedInHalf x = new FoldedInHalf();
        make(x, kind, a, word);
        int[] creases = creases(kind, a, word);
        int[][] at = walk(creases, 0, 0, 0);
        String name = "kind " + kind + " a " + a + " word " + java.util.Arrays.toString(word) + " ";
        due(name + "creases", creases.length, x.creases(0));
        for (int n = 0; n <= creases.length + 1; n++) {
            due(name + "place x " + n, at[n][0], x.place(0, n, 0));
            due(name + "place y " + n, at[n][1], x.place(0, n, 1));
            if (n > 0) {
                due(name + "way " + n, at[n][2], x.way(0, n));
            }
            if (n > 0 && n <= creases.length) {
                due(name + "crease " + n, creases[n - 1], x.crease(0, n));
            }
        }
        due(name + "beyond", -5, x.crease(0, creases.length + 1));
        due(name + "beyond", -5, x.way(0, creases.length + 2));
    }

    /** Far out: each side leads from place to place, ways turn by creases, and the ends are as the products tell. */
    private static void farStrip() {
        int kind = DICE.nextInt(6);
        int[] word = word(kind == 2 ? 25 : 40);
        int a = DICE.nextInt(1000000);
        FoldedInHalf x = new FoldedInHalf();
        make(x, kind, a, word);
        long creases = x.creases(0);
        for (int i = 0; i < 12; i++) {
            long n = 2 + Math.floorMod(DICE.nextLong(), creases);
            n = i == 0 ? creases + 1 : i == 1 ? 1 + (1L << 31) : i == 2 ? 1L << 32 : n;
            int way = x.way(0, n);
            int turned = x.crease(0, n - 1) == 1 ? 1 : 3;
            due("far way " + n, (x.way(0, n - 1) + turned) % 4, way);
            due("far x " + n, x.place(0, n - 1, 0) + STEP_X[way], x.place(0, n, 0));
            due("far y " + n, x.place(0, n - 1, 1) + STEP_Y[way], x.place(0, n, 1));
        }
        if (kind == 0 || kind == 1 || kind == 2 || kind == 5) {
            powers(x, kind, a, word);
        }
        if (kind == 3 || kind == 4) {
            cuts(x, kind, a, word);
        }
    }

    /** Behind the first fold of the levels up to one, a strip is where the product of 1 + i or 1 - i is. */
    private static void powers(FoldedInHalf x, int kind, int a, int[] word) {
        long px = 1;
        long py = 0;
        long n = 1;
        for (int level = 0; level < word.length; level++) {
            int letter = kind == 1 ? a % 2 : kind == 5 ? 1 - word[level] : word[level];
            int to = letter == 1 ? 1 : -1;
            int on = kind == 2 ? 2 : 1;
            long nx = on * px - to * py;
            py = on * py + to * px;
            px = nx;
            n *= kind == 2 ? 3 : 2;
            due("power x " + kind + " " + n, px, x.place(0, n, 0));
            due("power y " + kind + " " + n, py, x.place(0, n, 1));
        }
    }

    /** A cut is the same strip seen from further on; from its other end it is that turned round. */
    private static void cuts(FoldedInHalf x, int kind, int a, int[] word) {
        int whole = make(x, 0, a, word);
        long b = a % x.creases(whole);
        long end = x.creases(whole) + 1;
        for (int i = 0; i < 10; i++) {
            long n = Math.floorMod(DICE.nextLong(), end - b);
            long from = kind == 3 ? b : end;
            long to = kind == 3 ? b + n : end - n;
            long dx = x.place(whole, to, 0) - x.place(whole, from, 0);
            long dy = x.place(whole, to, 1) - x.place(whole, from, 1);
            int first = kind == 3 ? x.way(whole, b + 1) : x.way(whole, end) + 2;
            for (int turned = first % 4; turned > 0 && turned < 4; turned++) {
                long turnedX = -dy;
                dy = dx;
                dx = turnedX;
            }
            due("cut x", dx, x.place(0, n, 0));
            due("cut y", dy, x.place(0, n, 1));
        }
    }

    private static String side(int[] from, int[] to) {
        return (from[0] + to[0]) + "/" + (from[1] + to[1]);
    }

    private static void walks() {
        FoldedInHalf x = new FoldedInHalf();
        int[][] creases = new int[2][];
        for (int i = 0; i < 2; i++) {
            int kind = DICE.nextInt(7);
            int a = DICE.nextInt(2000);
            int[] word = word(kind == 2 ? 2 + DICE.nextInt(6) : 3 + DICE.nextInt(10));
            make(x, kind, a, word);
            creases[i] = creases(kind, a, word);
        }
        int[][] at = walk(creases[0], 0, 0, 0);
        int sides = Math.min(4000, at.length - 1);
        int n = DICE.nextInt(3) == 0 ? sides : DICE.nextInt(sides + 1);
        Map<String, Integer> places = new HashMap<>();
        Set<String> gone = new HashSet<>();
        int most = 0;
        int twice = 0;
        for (int i = 0; i <= n; i++) {
            most = Math.max(most, places.merge(at[i][0] + "/" + at[i][1], 1, Integer::sum));
            if (i > 0 && !gone.add(side(at[i - 1], at[i]))) {
                twice++;
            }
        }
        due("most", most, x.most(0, n));
        due("twice", twice, x.twice(0, n));
        due("cover", places.size(), x.cover(0, n));
        for (int i = 0; i < 8; i++) {
            int[] spot = at[DICE.nextInt(n + 1)];
            due("passed", places.get(spot[0] + "/" + spot[1]), x.passed(0, n, spot[0], spot[1]));
            whens(x, at, sides, spot);
        }
        due("passed nowhere", 0, x.passed(0, n, 4001, 0));
        near(x, at, creases[1]);
        four(x, creases[0]);
    }

    private static void whens(FoldedInHalf x, int[][] at, int sides, int[] spot) {
        int times = 0;
        for (int i = 0; i <= sides; i++) {
            if (at[i][0] == spot[0] && at[i][1] == spot[1]) {
                due("when", i, x.when(0, spot[0], spot[1], times));
                times++;
            }
        }
        due("when no more", -1, x.when(0, spot[0], spot[1], times));
    }

    private static void near(FoldedInHalf x, int[][] at, int[] otherCreases) {
        int dx = DICE.nextInt(201) - 100;
        int dy = DICE.nextInt(201) - 100;
        int[][] other = walk(otherCreases, dx, dy, 0);
        int n = DICE.nextInt(Math.min(4000, Math.min(at.length, other.length) - 1) + 1);
        long least = Long.MAX_VALUE;
        int first = -1;
        for (int i = 0; i <= n; i++) {
            long apartX = at[i][0] - other[i][0];
            long apartY = at[i][1] - other[i][1];
            if (apartX * apartX + apartY * apartY < least) {
                least = apartX * apartX + apartY * apartY;
                first = i;
            }
        }
        due("near", least, x.near(0, 1, n, dx, dy, 0));
        due("near first", first, x.near(0, 1, n, dx, dy, 1));
    }

    private static void four(FoldedInHalf x, int[] creases) {
        int n = Math.min(1000, DICE.nextInt(2) == 0 ? creases.length + 1 : DICE.nextInt(creases.length + 2));
        Map<String, Integer> gone = new HashMap<>();
        for (int way = 0; way < 4; way++) {
            int[][] at = walk(creases, 0, 0, way);
            for (int i = 1; i <= n; i++) {
                gone.merge(side(at[i - 1], at[i]), 1, Integer::sum);
            }
        }
        int reach = 30;
        for (int px = -30; px <= 30; px++) {
            for (int py = -30; py <= 30; py++) {
                for (int way = 0; way < 2; way++) {
                    int qx = px + STEP_X[way];
                    int qy = py + STEP_Y[way];
                    int far = Math.max(Math.max(Math.abs(px), Math.abs(py)), Math.max(Math.abs(qx), Math.abs(qy)));
                    if (gone.getOrDefault((px + qx) + "/" + (py + qy), 0) != 1) {
                        reach = Math.min(reach, far - 1);
                    }
                }
            }
        }
        due("four " + n, reach, x.four(0, n));
    }

    private static void told() {
        FoldedInHalf x = new FoldedInHalf();
        int n = DICE.nextInt(64);
        int[] told = new int[n];
        int[] from = creases(0, 0, word(6));
        int spoilt = DICE.nextInt(12);
        x.row(1, DICE.nextInt(4), n);
        for (int i = 0; i < n; i++) {
            told[i] = DICE.nextInt(3) == 0 ? 2 + DICE.nextInt(9) : DICE.nextInt(12) < spoilt / 3 ? 1 - from[i] : from[i];
            told[i] = DICE.nextInt(9) == 0 ? -1 : told[i];
            x.set(1, i, told[i]);
        }
        int levels = 0;
        while (1 << levels <= n) {
            levels++;
        }
        int fits = 0;
        int[] first = null;
        int fewest = 99;
        int farthest = 0;
        for (int bits = 0; bits < 1 << levels; bits++) {
            int[] word = new int[levels];
            for (int level = 0; level < levels; level++) {
                // By levels: level 0 weighs most.
                word[level] = bits >> (levels - 1 - level) & 1;
            }
            int[] creases = creases(0, 0, word);
            int bad = 0;
            int firstBad = n + 1;
            for (int i = n - 1; i >= 0; i--) {
                if ((told[i] == 0 || told[i] == 1) && told[i] != creases[i]) {
                    bad++;
                    firstBad = i + 1;
                }
            }
            fewest = Math.min(fewest, bad);
            farthest = Math.max(farthest, firstBad);
            if (bad == 0) {
                fits++;
                first = first == null ? word : first;
            }
        }
        int free = x.words(1, n, -1);
        due("words " + n, fits, free == -1 ? 0 : 1 << free);
        for (int level = 0; level < levels; level++) {
            due("word " + n, first == null ? -15 : first[level], x.words(1, n, level));
        }
        due("no level " + n, -15, x.words(1, n, levels));
        due("wrong " + n, fits > 0 ? -1 : farthest, x.wrong(1, n));
        due("mend " + n, fewest, x.mend(1, n));
        judge(x, told);
    }

    private static void judge(FoldedInHalf x, int[] told) {
        int kind = DICE.nextInt(7);
        int a = DICE.nextInt(100);
        int[] word = word(kind == 2 ? 5 : 8);
        int strip = make(x, kind, a, word);
        int[] creases = creases(kind, a, word);
        int first = -1;
        for (int i = told.length - 1; i >= 0; i--) {
            if ((told[i] == 0 || told[i] == 1) && told[i] != creases[i]) {
                first = i + 1;
            }
        }
        due("judge", first, x.judge(strip, 1, told.length));
    }

    private static void pieces() {
        FoldedInHalf x = new FoldedInHalf();
        int kind = DICE.nextInt(7);
        int a = DICE.nextInt(300);
        int[] word = word(1 + DICE.nextInt(kind == 2 ? 8 : 13));
        make(x, kind, a, word);
        int[] creases = creases(kind, a, word);
        int n = 1 + DICE.nextInt(40);
        int[] told = new int[n];
        int start = DICE.nextInt(creases.length);
        x.row(1, 3, n);
        for (int i = 0; i < n; i++) {
            told[i] = start + i < creases.length ? creases[start + i] : DICE.nextInt(2);
            told[i] = DICE.nextInt(5) == 0 ? 2 : DICE.nextInt(60) == 0 ? 1 - told[i] : told[i];
            x.set(1, i, told[i]);
        }
        int last = Math.min(4000, creases.length);
        int many = 0;
        int first = -5;
        for (int from = last - n; from >= 0; from--) {
            boolean stands = true;
            for (int i = 0; i < n; i++) {
                stands &= told[i] != 0 && told[i] != 1 || told[i] == creases[from + i];
            }
            if (stands) {
                many++;
                first = from + 1;
            }
        }
        due("piece", many, x.piece(0, 1, n, 0));
        due("piece from", first, x.piece(0, 1, n, 1));
    }

    private static void ends() {
        FoldedInHalf x = new FoldedInHalf();
        for (int f = 1; f <= 10; f++) {
            Map<Integer, Integer> many = new HashMap<>();
            Map<Integer, Integer> first = new HashMap<>();
            for (int bits = 0; bits < 1 << f; bits++) {
                int[] word = new int[f];
                for (int level = 0; level < f; level++) {
                    word[level] = bits >> level & 1;
                }
                int[] end = walk(creases(0, 0, word), 0, 0, 0)[1 << f];
                int key = (end[0] + 40) * 100 + end[1] + 40;
                many.merge(key, 1, Integer::sum);
                first.putIfAbsent(key, bits);
            }
            for (int px = -34; px <= 34; px++) {
                for (int py = -34; py <= 34; py++) {
                    int key = (px + 40) * 100 + py + 40;
                    due("ends " + f, many.getOrDefault(key, 0), x.ends(f, px, py, 0));
                    due("ends first " + f, first.getOrDefault(key, -5), x.ends(f, px, py, 1));
                }
            }
        }
    }

    private static boolean canBe(int[] order) {
        int[] place = new int[order.length];
        for (int i = 0; i < order.length; i++) {
            place[order[i]] = i;
        }
        for (int i = 0; i + 1 < order.length; i++) {
            for (int j = i + 2; j + 1 < order.length; j += 2) {
                int low = Math.min(place[i], place[i + 1]);
                int high = Math.max(place[i], place[i + 1]);
                boolean one = low < place[j] && place[j] < high;
                boolean two = low < place[j + 1] && place[j + 1] < high;
                if (one != two) {
                    return false;
                }
            }
        }
        return true;
    }

    private static int row = 0;

    private static void orders(int n) {
        FoldedInHalf x = new FoldedInHalf();
        row = 0;
        lay(x, new int[n], 0, 0);
        due("orders " + n, row, x.orders(n));
        due("no more " + n, -5, x.order(n, row, 0));
    }

    private static void lay(FoldedInHalf x, int[] order, int place, int used) {
        int n = order.length;
        if (place == n) {
            boolean can = canBe(order);
            // An object is used for 512 calls; this one only asks, and every third order is enough for can().
            if (can || DICE.nextInt(3) == 0) {
                x.row(0, 1, n);
                for (int i = 0; i < n; i++) {
                    x.set(0, i, order[i]);
                }
                due("can " + java.util.Arrays.toString(order), can ? 1 : 0, x.can(0, n));
            }
            if (can) {
                for (int i = 0; i < n; i++) {
                    due("order " + n + " " + row, order[i], x.order(n, row, i));
                }
                row++;
            }
            return;
        }
        for (int leaf = 0; leaf < n; leaf++) {
            if ((used >> leaf & 1) == 0) {
                order[place] = leaf;
                lay(x, order, place + 1, used | 1 << leaf);
            }
        }
    }
}
