import java.util.Arrays;

/** Each promise of the document: ordinary inputs, the edges that it names, and wrong inputs. */
public final class PromiseTests {
    private static final int MIN = Integer.MIN_VALUE;
    private static final int MAX = Integer.MAX_VALUE;
    private static final long NO_PLACE = -2000000000000000L;
    private static int wrong = 0;
    private static int promise = 0;
    private static int row = 0;

    public static void main(String[] args) {
        newObject();
        rows();
        sets();
        copies();
        elements();
        shows();
        sayings();
        strips();
        stripsOf();
        turns();
        reads();
        faults();
        creases();
        ways();
        places();
        passed();
        most();
        twice();
        cover();
        when();
        near();
        four();
        words();
        wrongs();
        mends();
        judges();
        ends();
        pieces();
        can();
        orders();
        order();
        pages();
        drops();
        acts();
        traces();
        images();
        restores();
        status();
        System.out.println(wrong == 0 ? "all answers are as due" : wrong + " answers are not as due");
        if (wrong != 0) {
            System.exit(1);
        }
    }

    private static void begin(int number) {
        promise = number;
        row = 0;
    }

    private static void due(long want, long got) {
        row++;
        if (want != got) {
            wrong++;
            System.out.println("promise " + promise + ", row " + row + ": answered " + got + ", due is " + want);
        }
    }

    private static FoldedInHalf put(FoldedInHalf x, int s, int sort, long... values) {
        x.row(s, sort, values.length);
        for (int i = 0; i < values.length; i++) {
            x.set(s, i, values[i]);
        }
        return x;
    }

    private static FoldedInHalf letters(FoldedInHalf x, String text) {
        long[] values = new long[text.length()];
        for (int i = 0; i < values.length; i++) {
            values[i] = text.charAt(i);
        }
        return put(x, 7, 0, values);
    }

    /** A new object with the strips that a text tells. */
    private static FoldedInHalf of(String text) {
        FoldedInHalf x = letters(new FoldedInHalf(), text);
        if (x.read(7) < 0) {
            wrong++;
            System.out.println("promise " + promise + ": can't read " + text);
        }
        x.row(7, 0, 0);
        return x;
    }

    private static FoldedInHalf full() {
        return of("strip 0 0 l;strip 0 0 l;strip 0 0 l;strip 0 0 l;strip 0 0 l;strip 0 0 l;strip 0 0 l;strip 0 0 l");
    }

    private static void newObject() {
        begin(1);
        FoldedInHalf x = new FoldedInHalf();
        due(-1, FoldedInHalf.NONE);
        for (int what = 0; what <= 3; what++) {
            due(0, x.status(what));
        }
        for (int what = 11; what <= 17; what++) {
            due(0, x.status(what));
        }
        for (int s = 0; s < 8; s++) {
            due(-1, x.holds(s));
        }
        due(-1, x.fault());
        due(-1, x.trace(0));
        due(0, x.image());
    }

    private static void rows() {
        begin(2);
        FoldedInHalf x = new FoldedInHalf();
        for (int sort = 0; sort <= 3; sort++) {
            due(1, x.row(sort, sort, 160));
            due(100 + sort, x.holds(sort));
        }
        due(1, x.row(7, 0, 0));
        due(100, x.holds(7));
        due(-1, x.row(8, 0, 0));
        due(-1, x.row(-1, 9, -1));
        due(-4, x.row(0, 9, -1));
        due(-4, x.row(0, 0, MIN));
        due(-6, x.row(0, 4, 161));
        due(-6, x.row(0, -1, 0));
        due(-7, x.row(0, 0, 161));
        due(-7, x.row(0, 3, MAX));
        put(x, 0, 3, 5, 6);
        due(1, x.row(0, 3, 2));
        due(0, x.element(0, 0));
        FoldedInHalf y = of("strip 0 0 l");
        y.show(1, 0);
        due(1, y.row(1, 2, 3));
        due(102, y.holds(1));
    }

    private static void sets() {
        begin(3);
        FoldedInHalf x = new FoldedInHalf();
        due(-3, x.set(0, 0, 1));
        x.row(0, 0, 2);
        due(1, x.set(0, 1, 200));
        due(-56, x.element(0, 1));
        x.row(0, 1, 1);
        due(1, x.set(0, 0, 0x18001L));
        due(-32767, x.element(0, 0));
        x.row(0, 2, 1);
        due(1, x.set(0, 0, 0x180000000L));
        due(MIN, x.element(0, 0));
        x.row(0, 3, 160);
        due(1, x.set(0, 159, 77));
        due(77, x.element(0, 159));
        due(-5, x.set(0, 160, 77));
        due(0, x.element(0, 160));
        x.row(0, 3, 1);
        due(1, x.set(0, 0, Long.MIN_VALUE));
        due(Long.MIN_VALUE, x.element(0, 0));
        due(-5, x.set(0, 1, 0));
        due(-5, x.set(0, -1, 0));
        due(-5, x.set(0, MIN, 0));
        due(-1, x.set(8, 0, 0));
        due(-1, x.set(-1, 0, 0));
        x = of("strip 0 0 l");
        x.show(0, 0);
        due(-2, x.set(0, 9, 0));
    }

    private static void copies() {
        begin(4);
        FoldedInHalf x = put(new FoldedInHalf(), 0, 2, 1, 2, 3, 4, 5);
        due(1, x.copy(0, 0, 0, 1, 4));
        long[] moved = {1, 1, 2, 3, 4};
        for (int i = 0; i < 5; i++) {
            due(moved[i], x.element(0, i));
        }
        due(1, x.copy(0, 0, 2, 0, 3));
        due(2, x.element(0, 0));
        due(4, x.element(0, 2));
        due(3, x.element(0, 3));
        x.row(1, 2, 3);
        due(1, x.copy(0, 1, 2, 1, 2));
        due(0, x.element(1, 0));
        due(4, x.element(1, 1));
        due(1, x.copy(0, 1, 5, 3, 0));
        due(-5, x.copy(0, 1, 6, 3, 0));
        due(-5, x.copy(0, 1, 5, 4, 0));
        due(-5, x.copy(0, 1, 3, 0, 3));
        due(-5, x.copy(0, 1, 0, 0, 4));
        due(-5, x.copy(0, 1, 0, 2, 2));
        due(1, x.copy(0, 0, 0, 0, 5));
        due(1, x.copy(1, 0, 0, 2, 3));
        due(-5, x.copy(0, 1, -1, 0, 1));
        due(-5, x.copy(0, 1, 0, -1, 1));
        due(-5, x.copy(0, 1, MAX, 0, MAX));
        due(-5, x.copy(0, 1, MIN, MIN, MAX));
        due(-4, x.copy(0, 1, -1, 9, -1));
        due(-3, x.copy(0, 2, 0, 0, -1));
        due(-3, x.copy(2, 0, 0, 0, -1));
        due(-3, x.copy(2, 3, 0, 0, 0));
        x.row(3, 1, 3);
        due(-2, x.copy(0, 3, 0, 0, -1));
        due(-1, x.copy(0, 8, 0, 0, 0));
        due(-1, x.copy(-1, 0, 0, 0, 0));
        x = of("strip 0 0 l");
        x.show(0, 0);
        due(-2, x.copy(0, 1, 0, 0, -1));
        due(-2, x.copy(1, 0, 0, 0, -1));
        due(-2, x.copy(0, 0, 0, 0, 0));
    }

    private static void elements() {
        begin(5);
        FoldedInHalf x = put(new FoldedInHalf(), 0, 3, 7, -8);
        due(7, x.element(0, 0));
        due(-8, x.element(0, 1));
        due(0, x.element(0, 2));
        due(0, x.element(0, -1));
        due(0, x.element(1, 0));
        due(0, x.element(8, 0));
        due(0, x.element(-1, 0));
        x = of("strip 0 0 l");
        x.row(0, 0, 1);
        x.set(0, 0, 3);
        x.show(0, 0);
        due(0, x.element(0, 0));
        for (int what = 11; what <= 17; what++) {
            due(0, x.status(what));
        }
    }

    private static void shows() {
        begin(6);
        FoldedInHalf x = of("strip 0 0 l;strip 1 1 ll");
        due(1, x.show(0, 1));
        due(1, x.holds(0));
        due(1, x.show(0, 0));
        due(0, x.holds(0));
        due(0, x.show(0, -1));
        due(-1, x.holds(0));
        due(-1, x.show(0, 2));
        due(-1, x.show(0, -2));
        due(-1, x.show(8, 0));
        due(-1, x.show(-1, -1));
        due(4, x.status(11));
        begin(7);
        due(-1, x.holds(8));
        due(-1, x.holds(-1));
        due(100, x.holds(7));
        due(4, x.status(11));
    }

    private static void sayings() {
        begin(8);
        FoldedInHalf x = of("strip 0 9 lrl;strip 1 7 rr;strip 2 0 lllllll;strip 3 5002 rrrrrrrrrrrrr;"
                + "strip 4 9000 rrrrrrrrrrrrr;strip 5 0 rl;strip 6 0 lr");
        long[][] due = {
            {3, -2, -2, -2, -2, -2, -2}, {2, 1, -2, -2, -2, -2, -2}, {7, -2, 186, -2, -2, -2, -2},
            {13, -2, -2, 2, -2, -2, -2}, {13, -2, -2, 809, 809, -2, -2}, {2, -2, -2, -2, -2, 1, -2},
            {2, -2, -2, -2, -2, 0, 0}};
        for (int strip = 0; strip < due.length; strip++) {
            x.show(0, strip);
            for (int kind = 0; kind < 7; kind++) {
                due(due[strip][kind], x.says(0, kind));
            }
        }
        due(-1, x.says(0, 7));
        due(-1, x.says(0, -1));
        due(-1, x.says(8, 0));
        due(-1, x.says(-1, 0));
        due(-2, x.says(7, 0));
        due(-3, x.says(1, 0));
        x.show(0, 5);
        x.turn(5, 0);
        due(0, x.says(0, 5));
    }

    private static void strips() {
        begin(9);
        FoldedInHalf x = put(new FoldedInHalf(), 0, 3, 3, -2, 4294967297L, 8);
        due(0, x.strip(0, 999999, 0, 4));
        due(1, x.stripOf(0, 10));
        due(0, x.stripOf(0, 11));
        due(1, x.stripOf(0, 12));
        due(0, x.stripOf(0, 13));
        due(1, x.strip(6, 0, 0, 1));
        due(-1, x.strip(-1, 0, 0, 1));
        due(-1, x.strip(7, 0, 9, 1));
        due(-1, x.strip(7, 0, 0, 1));
        due(-1, x.strip(7, 0, 1, 1));
        due(-1, x.strip(0, 0, 8, 1));
        due(-3, x.strip(0, -1, 1, -1));
        due(-4, x.strip(0, -1, 0, -1));
        due(-5, x.strip(0, -1, 0, 5));
        due(-6, x.strip(0, 0, 0, 0));
        due(-6, x.strip(0, -1, 0, 1));
        due(-6, x.strip(0, 1000000, 0, 1));
        x.row(1, 0, 160);
        due(-6, x.strip(0, 0, 1, 41));
        due(-6, x.strip(2, 0, 1, 26));
        due(2, x.strip(2, 0, 1, 25));
        due(3, x.strip(3, 0, 1, 40));
        x.show(2, 0);
        due(-2, x.strip(0, -1, 2, -1));
        for (int i = 4; i < 8; i++) {
            due(i, x.strip(i - 1, 1, 0, 2));
        }
        due(-6, x.strip(0, -1, 0, 1));
        due(-7, x.strip(0, 0, 0, 1));
        due(8, x.status(0));
    }

    private static void stripsOf() {
        begin(10);
        FoldedInHalf x = of("strip 5 123456 lrl");
        due(5, x.stripOf(0, 0));
        due(123456, x.stripOf(0, 1));
        due(3, x.stripOf(0, 2));
        due(1, x.stripOf(0, 10));
        due(0, x.stripOf(0, 11));
        due(1, x.stripOf(0, 12));
        for (int what : new int[] {13, 9, 3, -1, MIN, MAX}) {
            due(-5, x.stripOf(0, what));
        }
        due(-5, x.stripOf(1, 0));
        due(-5, x.stripOf(-1, 0));
        due(8, x.status(15));
        due(0, x.status(11));
    }

    private static void turns() {
        begin(11);
        FoldedInHalf x = of("strip 0 0 lr;strip 1 0 rr");
        due(1, x.turn(0, 0));
        due(0, x.stripOf(0, 10));
        due(0, x.crease(0, 1));
        due(0, x.turn(0, 1));
        due(1, x.stripOf(0, 11));
        due(0, x.turn(0, 0));
        due(0, x.turn(1, 0));
        due(1, x.stripOf(1, 10));
        due(0, x.crease(1, 1));
        due(-5, x.turn(0, 2));
        due(-5, x.turn(0, -1));
        due(-1, x.turn(2, 0));
        due(-1, x.turn(-1, -1));
    }

    private static void readDue(long items, long fault, FoldedInHalf x, String text) {
        letters(x, text);
        due(items, x.read(7));
        due(fault, x.fault());
    }

    private static void reads() {
        begin(12);
        FoldedInHalf x = new FoldedInHalf();
        due(-3, x.read(0));
        due(-1, x.read(8));
        due(-1, x.read(-1));
        readDue(1, -1, x, "strip 3 000012 lr");
        due(3, x.stripOf(0, 0));
        due(12, x.stripOf(0, 1));
        due(2, x.stripOf(0, 2));
        due(1, x.stripOf(0, 10));
        due(0, x.stripOf(0, 11));
        readDue(4, -1, x, "turn 0 1;strip 6 1 rrr;turn 1 2;less 1");
        due(1, x.stripOf(0, 11));
        due(2, x.stripOf(1, 2));
        due(0, x.stripOf(1, 11));
        due(2, x.status(2));
        readDue(2, -1, x, "strip 0 0 lllr;less 2");
        due(3, x.stripOf(2, 2));
        due(5, x.status(2));
        readDue(1, -1, x, "less 2");
        due(1, x.stripOf(2, 10));
        due(1, x.stripOf(2, 11));
        due(-5, x.stripOf(2, 12));
        due(4, x.status(2));
        x.show(0, 0);
        due(-2, x.read(0));
        readDue(-6, 17, x, "turn 0 0;turn 0 1x");
        due(1, x.stripOf(0, 10));
        long[] longs = new long[11];
        for (int i = 0; i < 11; i++) {
            longs[i] = "strip 0 0 l".charAt(i) + (1L << 32);
        }
        put(x, 7, 3, longs);
        due(1, x.read(7));
        x.row(7, 2, 11);
        for (int i = 0; i < 11; i++) {
            x.set(7, i, i == 2 ? 'r' + 256 : "strip 0 0 l".charAt(i));
        }
        due(-6, x.read(7));
        due(2, x.fault());
    }

    private static void faults() {
        begin(13);
        FoldedInHalf x = of("strip 0 0 lll;strip 2 0 l");
        due(-1, x.fault());
        String thirds = "lrlrlrlrlrlrlrlrlrlrlrlrl";
        String forty = "lrlrlrlrlrlrlrlrlrlrlrlrlrlrlrlrlrlrlrlr";
        readDue(-6, 0, x, "");
        readDue(-6, 0, x, "x");
        readDue(-6, 0, x, " strip 0 0 l");
        readDue(-6, 0, x, ";");
        readDue(-6, 3, x, "str");
        readDue(-6, 2, x, "stR");
        readDue(-6, 5, x, "strip");
        readDue(-6, 5, x, "strip;");
        readDue(-6, 6, x, "strip ");
        readDue(-6, 6, x, "strip  0 0 l");
        readDue(-6, 6, x, "strip 7 0 l");
        readDue(-6, 6, x, "strip 7");
        readDue(-6, 6, x, "strip 10 0 l");
        readDue(-6, 6, x, "strip -1 0 l");
        readDue(-6, 7, x, "strip 0");
        readDue(-6, 8, x, "strip 0 ");
        readDue(-6, 8, x, "strip 0 l l");
        readDue(-6, 14, x, "strip 0 1234567 l");
        readDue(-6, 14, x, "strip 0 999999");
        readDue(-6, 10, x, "strip 0 0 ");
        readDue(-6, 10, x, "strip 0 0 ;less 0");
        readDue(-6, 10, x, "strip 0 0 L");
        readDue(-6, 11, x, "strip 0 0 l ");
        readDue(-6, 11, x, "strip 0 0 l ;less 0");
        readDue(-6, 12, x, "strip 0 0 l;");
        readDue(-6, 12, x, "strip 0 0 l; less 0");
        readDue(-6, 35, x, "strip 2 0 " + thirds + "r");
        readDue(-6, 50, x, "strip 0 0 " + forty + "r");
        readDue(-6, 5, x, "turn 2 0");
        readDue(-6, 5, x, "turn 99999999 0");
        readDue(-6, 7, x, "turn 0 3");
        readDue(-6, 7, x, "turn 1 1");
        readDue(-6, 6, x, "turn 0");
        readDue(-6, 8, x, "turn 0 0 ");
        readDue(-6, 5, x, "less 1");
        readDue(-6, 5, x, "less 2");
        readDue(-6, 19, x, "less 0;less 0;less 0");
        readDue(-6, 1, x, "lr");
        readDue(-6, 4, x, "stri;less 0");
        readDue(-6, 5, x, "strip;less 0");
        readDue(-6, 6, x, "strip ;less 0");
        readDue(-6, 7, x, "strip 0;less 0");
        readDue(-6, 8, x, "strip 0 ;less 0");
        readDue(-6, 9, x, "strip 0 0;less 0");
        readDue(-6, 4, x, "turn;less 0");
        readDue(-6, 5, x, "turn ;less 0");
        readDue(-6, 6, x, "turn 0;less 0");
        readDue(-6, 7, x, "turn 0 ;less 0");
        readDue(-6, 4, x, "less;less 0");
        readDue(-6, 5, x, "less ;less 0");
        readDue(-6, 5, x, "less 1;less 0");
        readDue(-6, 21, x, "strip 0 0 l;turn 2 0;w ");
        due(3, x.stripOf(0, 2));
        due(2, x.status(0));
        readDue(2, -1, x, "strip 0 0 " + forty + ";strip 2 0 " + thirds);
        x = full();
        readDue(-6, 0, x, "strip 0 0 l");
        readDue(-6, 0, x, "strip");
        readDue(-6, 0, x, "strip 9");
        readDue(-6, 0, x, "stripx");
        readDue(-6, 4, x, "stri");
        readDue(-6, 4, x, "striP");
        readDue(-6, 9, x, "turn 7 0;strip 0 0 l");
        due(1, x.creases(7));
        due(1, x.stripOf(7, 10));
        due(-1, x.read(-1));
        due(9, x.fault());
        due(-3, x.read(1));
        due(9, x.fault());
        readDue(1, -1, x, "turn 7 0");
    }

    private static void creases() {
        begin(14);
        FoldedInHalf x = of("strip 0 0 l;strip 2 0 rr;strip 3 4 lll;strip 4 7 lll;strip 3 9 l;strip 6 0 ll");
        long[] many = {1, 8, 3, 7, 1, 3};
        for (int strip = 0; strip < many.length; strip++) {
            due(many[strip], x.creases(strip));
        }
        due(-1, x.creases(6));
        due(-1, x.creases(-1));
        x = of("strip 0 0 llllllllllllllllllllllllllllllllllllllll;strip 2 0 lllllllllllllllllllllllll");
        due((1L << 40) - 1, x.creases(0));
        due(847288609442L, x.creases(1));
        begin(15);
        x = of("strip 0 0 lrl;strip 1 2 lrl;strip 2 0 lr;strip 3 2 lrl;strip 4 2 lrl;strip 5 0 lrl;strip 6 0 lrl");
        String[] bends = {"1001110", "0010011", "10010110", "01110", "10001", "0110001", "0111001"};
        for (int strip = 0; strip < bends.length; strip++) {
            due(bends[strip].length(), x.creases(strip));
            for (int n = 1; n <= bends[strip].length(); n++) {
                due(bends[strip].charAt(n - 1) - '0', x.crease(strip, n));
            }
            due(-5, x.crease(strip, bends[strip].length() + 1));
            due(-5, x.crease(strip, 0));
            due(-5, x.crease(strip, Long.MIN_VALUE));
            due(-5, x.crease(strip, Long.MAX_VALUE));
        }
        due(-1, x.crease(7, 1));
        due(-1, x.crease(-1, 0));
    }

    private static void ways() {
        begin(16);
        FoldedInHalf x = of("strip 0 0 lrl;strip 6 0 lrl");
        int[][] ways = {{0, 1, 0, 3, 0, 1, 2, 1}, {0, 3, 0, 1, 2, 1, 0, 1}};
        for (int strip = 0; strip < 2; strip++) {
            for (int n = 1; n <= 8; n++) {
                due(ways[strip][n - 1], x.way(strip, n));
            }
            due(-5, x.way(strip, 0));
            due(-5, x.way(strip, 9));
        }
        due(-1, x.way(2, 1));
        due(-5, x.way(0, Long.MAX_VALUE));
    }

    private static void places() {
        begin(17);
        FoldedInHalf x = of("strip 0 0 lrl;strip 6 0 lrlrlrlrlrlrlrlrlrlr;strip 6 0 l");
        int[][] at = {{0, 0}, {1, 0}, {1, 1}, {2, 1}, {2, 0}, {3, 0}, {3, 1}, {2, 1}, {2, 2}};
        for (int n = 0; n < at.length; n++) {
            due(at[n][0], x.place(0, n, 0));
            due(at[n][1], x.place(0, n, 1));
        }
        due(NO_PLACE - 5, x.place(0, 9, 0));
        due(NO_PLACE - 5, x.place(0, -1, 0));
        due(NO_PLACE - 5, x.place(0, 0, 2));
        due(NO_PLACE - 5, x.place(0, 0, -1));
        due(NO_PLACE - 1, x.place(3, 0, 2));
        due(NO_PLACE - 1, x.place(-1, 0, 0));
        due(0, x.place(1, 100000, 0));
        due(NO_PLACE - 7, x.place(1, 100001, 0));
        due(NO_PLACE - 5, x.place(1, 100001, 2));
        due(NO_PLACE - 5, x.place(1, (1 << 20) + 1, 0));
        due(NO_PLACE - 7, x.place(1, 1 << 20, 0));
        due(1, x.place(2, 2, 0));
        due(-1, x.place(2, 2, 1));
        due(6, x.status(15));
        due(2, x.status(11));
        due(2, x.status(17));
    }

    private static void passed() {
        begin(18);
        FoldedInHalf x = of("strip 1 1 lllll;strip 6 0 rrrrrrrrrrrrr");
        due(1, x.passed(0, 0, 0, 0));
        due(0, x.passed(0, 0, 1, 0));
        due(2, x.passed(1, 16, 0, 0));
        due(251, x.passed(1, 4000, 0, 0));
        due(0, x.passed(1, 4000, MAX, MIN));
        due(-5, x.passed(0, 33, 0, 0));
        due(-5, x.passed(0, 4001, 0, 0));
        due(-6, x.passed(1, 4001, 0, 0));
        due(-6, x.passed(0, -1, 0, 0));
        due(-1, x.passed(2, -1, 0, 0));
        due(-1, x.passed(-1, 0, 0, 0));
    }

    private static void most() {
        begin(19);
        FoldedInHalf x = of("strip 0 0 lrl;strip 6 0 rrrrrrrrrrrrr");
        due(1, x.most(0, 0));
        due(1, x.most(0, 6));
        due(2, x.most(0, 8));
        due(500, x.most(1, 4000));
        due(-5, x.most(0, 9));
        due(-6, x.most(1, 4001));
        due(-6, x.most(0, -1));
        due(-1, x.most(2, 0));
    }

    private static void twice() {
        begin(20);
        FoldedInHalf x = of("strip 0 0 lrl;strip 6 0 rrrrrrrrrrrrr;strip 0 0 rrr");
        due(0, x.twice(0, 0));
        due(0, x.twice(0, 8));
        due(0, x.twice(1, 16));
        due(3984, x.twice(1, 4000));
        due(-5, x.twice(0, 9));
        due(-6, x.twice(1, 4001));
        due(-6, x.twice(0, -1));
        due(-1, x.twice(3, 0));
        // A LEFT is where it began, and goes the way it went, after 16 sides.
        due(1, x.twice(1, 17));
        due(16, x.twice(1, 32));
    }

    private static void cover() {
        begin(21);
        FoldedInHalf x = of("strip 0 0 lrl;strip 6 0 rrrrrrrrrrrrr");
        due(1, x.cover(0, 0));
        due(8, x.cover(0, 8));
        due(11, x.cover(1, 10));
        due(11, x.cover(1, 11));
        due(13, x.cover(1, 16));
        due(13, x.cover(1, 4000));
        due(-5, x.cover(0, 9));
        due(-6, x.cover(1, 4001));
        due(-6, x.cover(0, -1));
        due(-1, x.cover(2, 0));
    }

    private static void when() {
        begin(22);
        FoldedInHalf x = of("strip 0 0 lrl;strip 6 0 rrrrrrrrrrrrr;strip 0 0 rrrrrrrrrrrrrrrr");
        due(3, x.when(0, 2, 1, 0));
        due(7, x.when(0, 2, 1, 1));
        due(-1, x.when(0, 2, 1, 2));
        due(8, x.when(0, 2, 2, 0));
        due(0, x.when(1, 0, 0, 0));
        due(4000, x.when(1, 0, 0, 250));
        due(-1, x.when(1, 0, 0, 251));
        due(-1, x.when(1, 0, 0, MAX));
        due(4000, x.when(2, (int) x.place(2, 4000, 0), (int) x.place(2, 4000, 1), 0));
        due(-1, x.when(2, (int) x.place(2, 30000, 0), (int) x.place(2, 30000, 1), 0));
        due(-1, x.when(0, MIN, MAX, 0));
        due(-15, x.when(0, 0, 0, -1));
        due(-11, x.when(3, 0, 0, -1));
        due(-11, x.when(-1, 0, 0, 0));
        due(2, x.status(11));
        due(1, x.status(15));
    }

    private static void near() {
        begin(23);
        FoldedInHalf x = of("strip 0 0 lrl;strip 6 0 rrrrrrrrrrrrr;strip 0 0 rrrrrrrrrrrrr");
        due(25, x.near(0, 0, 8, 3, 4, 0));
        due(0, x.near(0, 0, 8, 3, 4, 1));
        due(20000, x.near(1, 2, 0, -100, 100, 0));
        due(0, x.near(1, 2, 0, 0, 0, 0));
        due(0, x.near(0, 2, 2, 0, 2, 0));
        due(2, x.near(0, 2, 2, 0, 2, 1));
        due(-1, x.near(3, 0, 0, 0, 0, 5));
        due(-1, x.near(0, 3, 9, 0, 0, 0));
        due(-5, x.near(0, 1, 9, 0, 0, 0));
        due(-5, x.near(1, 0, 9, 0, 0, 0));
        due(-5, x.near(0, 1, -1, 0, 0, 2));
        due(-5, x.near(0, 1, 8, 101, 0, -1));
        due(-6, x.near(0, 1, -1, 0, 0, 0));
        due(-6, x.near(1, 2, 4001, 0, 0, 0));
        due(-6, x.near(0, 1, 8, 101, 0, 0));
        due(-6, x.near(0, 1, 8, -101, 0, 0));
        due(-6, x.near(0, 1, 8, 0, 101, 0));
        due(-6, x.near(0, 1, 8, 0, MIN, 1));
        due(1, x.near(1, 2, 4000, 100, 0, 0) >= 0 ? 1 : 0);
    }

    private static void four() {
        begin(24);
        FoldedInHalf x = of("strip 0 0 l;strip 1 1 llllllllllllll;strip 6 0 rrrrrrrrrrrrr");
        due(0, x.four(0, 0));
        due(0, x.four(0, 2));
        due(0, x.four(1, 2));
        due(1, x.four(1, 3));
        due(1, x.four(1, 20) > 0 ? 1 : 0);
        due(1, x.four(1, 1000) > 10 ? 1 : 0);
        due(0, x.four(2, 1000));
        due(-5, x.four(0, 3));
        due(-5, x.four(0, 1001));
        due(-6, x.four(1, 1001));
        due(-6, x.four(0, -1));
        due(-1, x.four(3, 0));
    }

    private static void toldRefusals(boolean tens, java.util.function.IntBinaryOperator call, FoldedInHalf x) {
        int less = tens ? -10 : 0;
        x.row(0, 0, 63);
        x.row(1, 0, 64);
        x.show(2, 0);
        x.show(3, -1);
        int[] before = new int[7];
        for (int i = 0; i < 7; i++) {
            before[i] = x.status(11 + i);
        }
        due(less - 1, call.applyAsInt(8, 0));
        due(less - 1, call.applyAsInt(-1, -1));
        due(less - 2, call.applyAsInt(2, -1));
        due(less - 3, call.applyAsInt(3, -1));
        due(less - 4, call.applyAsInt(0, -1));
        due(less - 4, call.applyAsInt(0, MIN));
        due(less - 5, call.applyAsInt(0, 64));
        due(less - 6, call.applyAsInt(1, 64));
        int[] more = {2, 1, 1, 2, 1, 1, 0};
        for (int i = 0; i < 7; i++) {
            due(before[i] + more[i], x.status(11 + i));
        }
    }

    private static void words() {
        begin(25);
        FoldedInHalf x = of("strip 0 0 lllllll");
        toldRefusals(true, (s, n) -> x.words(s, n, 0), x);
        toldRefusals(true, (s, n) -> x.words(s, n, -1), x);
        put(x, 0, 3, 2, -1, 0, 4294967296L, 7, 2, 9, 1);
        due(0, x.words(0, 0, -1));
        due(-15, x.words(0, 0, 0));
        due(1, x.words(0, 1, -1));
        due(0, x.words(0, 1, 0));
        due(2, x.words(0, 2, -1));
        due(1, x.words(0, 3, -1));
        due(1, x.words(0, 3, 0));
        due(0, x.words(0, 3, 1));
        due(-15, x.words(0, 3, 2));
        due(1, x.words(0, 4, -1));
        due(0, x.words(0, 4, 2));
        due(-15, x.words(0, 4, -2));
        due(-15, x.words(0, 4, MAX));
        due(1, x.words(0, 8, -1));
        due(1, x.words(0, 8, 3));
        x.set(0, 4, 0);
        due(-1, x.words(0, 5, -1));
        due(-15, x.words(0, 5, 0));
        due(0, x.words(0, 4, 1));
        x.row(1, 0, 64);
        due(-16, x.words(1, 64, 99));
        due(-15, x.words(0, 64, 99));
    }

    private static void wrongs() {
        begin(26);
        FoldedInHalf x = of("strip 0 0 lllllll");
        toldRefusals(true, (s, n) -> x.wrong(s, n), x);
        put(x, 0, 1, 1, 2, 0, 1, 0, 0, 1);
        due(-1, x.wrong(0, 0));
        due(-1, x.wrong(0, 4));
        due(5, x.wrong(0, 5));
        due(5, x.wrong(0, 7));
        x.set(0, 4, 1);
        due(7, x.wrong(0, 7));
        x.set(0, 6, 3);
        due(-1, x.wrong(0, 7));
    }

    private static void mends() {
        begin(27);
        FoldedInHalf x = of("strip 0 0 lllllll");
        toldRefusals(false, (s, n) -> x.mend(s, n), x);
        put(x, 0, 1, 1, 1, 1, 1, 1, 1, 1);
        due(0, x.mend(0, 0));
        due(0, x.mend(0, 2));
        due(1, x.mend(0, 3));
        due(1, x.mend(0, 5));
        due(2, x.mend(0, 6));
        due(3, x.mend(0, 7));
        x.set(0, 0, 5);
        due(2, x.mend(0, 6));
        x.set(0, 1, -5);
        due(1, x.mend(0, 6));
    }

    private static void judges() {
        begin(28);
        FoldedInHalf x = of("strip 0 0 lllllll;strip 0 0 ll;strip 3 1 rrr");
        toldRefusals(true, (s, n) -> x.judge(0, s, n), x);
        put(x, 0, 2, 1, 1, 0, 7, 1);
        due(-1, x.judge(0, 0, 0));
        due(-1, x.judge(0, 0, 5));
        due(-1, x.judge(1, 0, 3));
        due(-15, x.judge(1, 0, 4));
        x.set(0, 2, 1);
        due(3, x.judge(0, 0, 5));
        due(-1, x.judge(0, 0, 2));
        due(1, x.judge(2, 0, 1));
        due(-11, x.judge(3, 0, 0));
        due(-11, x.judge(-1, 9, 0));
        due(-11, x.judge(0, 8, 0));
        x.row(1, 0, 160);
        due(-15, x.judge(1, 1, 64));
        due(-16, x.judge(0, 1, 64));
    }

    private static void ends() {
        begin(29);
        FoldedInHalf x = new FoldedInHalf();
        due(1, x.ends(1, 1, 1, 0));
        due(1, x.ends(1, 1, 1, 1));
        due(0, x.ends(1, 1, -1, 1));
        due(2, x.ends(2, 2, 0, 0));
        due(1, x.ends(2, 2, 0, 1));
        due(1, x.ends(2, 0, 2, 0));
        due(3, x.ends(2, 0, 2, 1));
        due(0, x.ends(2, 1, 1, 0));
        due(-5, x.ends(2, 1, 1, 1));
        due(-5, x.ends(0, 1, 1, 2));
        due(-5, x.ends(2, 2, 0, -1));
        due(-6, x.ends(0, 1, 0, 1));
        due(-6, x.ends(11, MIN, MAX, 0));
        due(0, x.ends(10, MIN, MAX, 0));
        due(256, x.ends(10, 0, 32, 0));
        due(1, x.ends(10, 0, 32, 1) > 0 ? 1 : 0);
    }

    private static void pieces() {
        begin(30);
        FoldedInHalf x = of("strip 0 0 lrl;strip 6 0 rrrrrrrrrrrrr;strip 1 1 l");
        put(x, 0, 0, 1, 2, 0);
        due(3, x.piece(0, 0, 1, 0) - 1);
        due(1, x.piece(0, 0, 1, 1));
        due(2, x.piece(0, 0, 3, 0));
        due(1, x.piece(0, 0, 3, 1));
        put(x, 0, 0, 1, 1);
        due(2, x.piece(0, 0, 2, 0));
        due(4, x.piece(0, 0, 2, 1));
        put(x, 0, 0, 0, 0, 0);
        due(0, x.piece(0, 0, 3, 0));
        due(-5, x.piece(0, 0, 3, 1));
        put(x, 0, 0, 9, 9, 9, 9, 9, 9, 9, 9);
        due(0, x.piece(0, 0, 8, 0));
        due(1, x.piece(0, 0, 7, 0));
        due(3993, x.piece(1, 0, 8, 0));
        due(0, x.piece(2, 0, 2, 0));
        due(-1, x.piece(3, 0, 1, 0));
        due(-1, x.piece(0, 8, 1, 0));
        x.show(1, 0);
        due(-2, x.piece(0, 1, -1, 0));
        due(-3, x.piece(0, 2, -1, 0));
        due(-4, x.piece(0, 0, -1, 5));
        due(-5, x.piece(0, 0, 9, 0));
        due(-5, x.piece(0, 0, 0, 2));
        due(-5, x.piece(0, 0, 0, -1));
        due(-6, x.piece(0, 0, 0, 1));
        x.row(1, 0, 160);
        due(-6, x.piece(0, 1, 41, 1));
        due(0, x.piece(0, 1, 40, 0));
    }

    private static void can() {
        begin(31);
        FoldedInHalf x = of("strip 0 0 l");
        put(x, 0, 2, 0, 2, 1, 3);
        due(0, x.can(0, 4));
        due(-6, x.can(0, 2));
        due(1, x.can(0, 3));
        due(1, x.can(0, 1));
        due(-6, x.can(0, 0));
        put(x, 0, 3, 4294967296L, 1, 2, 3, 4, 5, 6, 7, 8);
        due(1, x.can(0, 8));
        due(-6, x.can(0, 9));
        due(-5, x.can(0, 10));
        due(-4, x.can(0, -1));
        put(x, 0, 2, 0, 0);
        due(-6, x.can(0, 2));
        put(x, 0, 2, 1, 1);
        due(-6, x.can(0, 2));
        put(x, 0, 2, 0, -1);
        due(-6, x.can(0, 2));
        put(x, 0, 2, 33, 0);
        due(-6, x.can(0, 2));
        x.show(1, 0);
        due(-2, x.can(1, -1));
        due(-3, x.can(2, -1));
        due(-1, x.can(8, 1));
    }

    private static void orders() {
        begin(32);
        FoldedInHalf x = new FoldedInHalf();
        int[] many = {1, 2, 6, 16, 50, 144, 462, 1392};
        for (int n = 8; n >= 1; n--) {
            due(many[n - 1], x.orders(n));
        }
        for (int n = 1; n <= 8; n++) {
            due(many[n - 1], x.orders(n));
        }
        due(-6, x.orders(0));
        due(-6, x.orders(9));
        due(-6, x.orders(MIN));
        due(-6, x.orders(MAX));
    }

    private static void order() {
        begin(33);
        FoldedInHalf x = new FoldedInHalf();
        int[][] three = {{0, 1, 2}, {0, 2, 1}, {1, 0, 2}, {1, 2, 0}, {2, 0, 1}, {2, 1, 0}};
        for (int i = 0; i < 6; i++) {
            for (int place = 0; place < 3; place++) {
                due(three[i][place], x.order(3, i, place));
            }
        }
        due(0, x.order(1, 0, 0));
        due(-5, x.order(1, 1, 0));
        due(-5, x.order(1, 0, 1));
        due(-5, x.order(3, 6, 0));
        due(-5, x.order(3, -1, 0));
        due(-5, x.order(3, 0, 3));
        due(-5, x.order(3, 0, -1));
        due(-5, x.order(8, 1392, 0));
        due(7, x.order(8, 1391, 0));
        due(0, x.order(8, 1391, 7));
        due(-6, x.order(0, 0, 0));
        due(-6, x.order(9, 0, 0));
    }

    private static void pages() {
        begin(34);
        FoldedInHalf x = new FoldedInHalf();
        // 7/0 6/1 5/2 4/3 from above, then 3/4/7/0 2/5/6/1, and the right one turned over onto the left.
        int[] thrice = {1, 6, 5, 2, 3, 4, 7, 0};
        for (int place = 0; place < 8; place++) {
            due(thrice[place], x.page(3, place));
        }
        for (int f = 1; f <= 6; f++) {
            int[] folded = fold(f);
            for (int place = 0; place < folded.length; place++) {
                due(folded[place], x.page(f, place));
            }
            due(-5, x.page(f, 1 << f));
            due(-5, x.page(f, -1));
        }
        due(0, x.page(6, 63));
        due(-5, x.page(6, 64));
        due(-6, x.page(0, 0));
        due(-6, x.page(7, 0));
        due(-6, x.page(MIN, 0));
        due(-6, x.page(MAX, 0));
    }

    /** The piles, from above, folded with paper as the document tells it. */
    private static int[] fold(int f) {
        int[][] piles = new int[1 << f][];
        for (int leaf = 0; leaf < piles.length; leaf++) {
            piles[leaf] = new int[] {leaf};
        }
        while (piles.length > 1) {
            int[][] folded = new int[piles.length / 2][];
            for (int left = 0; left < folded.length; left++) {
                int[] under = piles[left];
                int[] over = piles[piles.length - 1 - left];
                int[] both = Arrays.copyOf(over, over.length + under.length);
                for (int i = 0; i < over.length; i++) {
                    both[i] = over[over.length - 1 - i];
                }
                System.arraycopy(under, 0, both, over.length, under.length);
                folded[left] = both;
            }
            piles = folded;
        }
        return piles[0];
    }

    private static void drops() {
        begin(35);
        FoldedInHalf x = of("strip 0 0 l;strip 1 1 ll");
        x.show(0, 1);
        x.show(1, 0);
        x.show(2, 1);
        due(1, x.drop());
        due(-1, x.holds(0));
        due(0, x.holds(1));
        due(-1, x.holds(2));
        due(100, x.holds(7));
        due(-1, x.creases(1));
        due(0, x.drop());
        due(-6, x.drop());
        due(1, x.status(16));
        due(0, x.status(0));
        put(x, 0, 0, 1);
        due(0, x.strip(0, 0, 0, 1));
    }

    private static void actDue(FoldedInHalf x, int strip, int act, int with, int answer, int... bodies) {
        due(answer, x.act(strip, act, with));
        due(bodies.length, x.status(3));
        for (int i = 0; i < bodies.length; i++) {
            due(bodies[i], x.trace(i));
        }
        due(-1, x.trace(bodies.length));
    }

    private static void acts() {
        begin(36);
        FoldedInHalf x = of("strip 0 3 l;strip 1 3 l;strip 2 3 l;strip 3 3 l;strip 4 3 l;strip 5 3 l;strip 6 3 l");
        actDue(x, 0, 0, 7, 7, 10);
        actDue(x, 0, 1, 7, 14, 11, 10);
        actDue(x, 0, 2, 7, 14 ^ 4, 12, 11, 10, 10);
        actDue(x, 1, 0, 7, 11, 20, 10);
        actDue(x, 1, 1, 7, 22, 11, 20, 10);
        actDue(x, 1, 2, 7, 22 ^ 8, 12, 11, 20, 10, 20, 10);
        actDue(x, 2, 0, 7, 9, 10);
        actDue(x, 2, 1, 7, 54, 30, 11, 10);
        actDue(x, 2, 2, 7, 54 ^ 6, 12, 30, 11, 10, 10);
        actDue(x, 3, 0, 7, 10, 10);
        actDue(x, 3, 1, 7, 22, 40, 11, 10);
        actDue(x, 3, 2, 7, 22 ^ 7, 12, 40, 11, 10, 10);
        actDue(x, 4, 0, 7, 7, 51, 10);
        actDue(x, 4, 1, 7, 16, 40, 11, 51, 10);
        actDue(x, 4, 2, 7, -(16 ^ 4), 50, 12, 40, 11, 51, 10, 51, 10);
        actDue(x, 5, 0, 7, 12, 10);
        actDue(x, 5, 1, 7, 24, 11, 10);
        actDue(x, 5, 2, 7, 24 ^ 9 ^ 5, 60, 12, 11, 10, 10);
        actDue(x, 6, 0, 7, 26, 70, 10);
        actDue(x, 6, 1, 7, 40, 71, 11, 70, 10);
        actDue(x, 6, 2, 7, 40 ^ 20 ^ 5, 60, 12, 71, 11, 70, 10, 70, 10);
        actDue(x, 6, 0, MAX, 10, 70, 10);
        actDue(x, 1, 0, MAX, MIN + 3, 20, 10);
        actDue(x, 1, 3, 7, 0);
        actDue(x, 1, 0, 7, 11, 20, 10);
        actDue(x, 7, 0, 7, 0);
        actDue(x, 1, -1, 7, 0);
        actDue(x, -1, 0, 7, 0);
        for (int what = 11; what <= 17; what++) {
            due(0, x.status(what));
        }
    }

    private static void traces() {
        begin(37);
        FoldedInHalf x = of("strip 0 0 l");
        due(-1, x.trace(0));
        x.act(0, 2, 0);
        due(12, x.trace(0));
        due(10, x.trace(3));
        due(-1, x.trace(4));
        due(-1, x.trace(-1));
        due(-1, x.trace(20));
        due(-1, x.trace(MAX));
        x.act(0, 0, 0);
        due(10, x.trace(0));
        due(-1, x.trace(1));
        x.drop();
        due(10, x.trace(0));
    }

    private static void images() {
        begin(38);
        FoldedInHalf x = of("strip 0 0 lr;strip 1 1 ll");
        due(2, x.image());
        x.turn(0, 0);
        letters(x, "less 1;strip 2 0 l");
        x.read(7);
        due(3, x.status(0));
        due(2, x.restore());
        due(1, x.stripOf(0, 10));
        due(2, x.stripOf(1, 2));
        due(-1, x.creases(2));
        x.drop();
        x.drop();
        due(0, x.image());
        due(0, x.restore());
        due(0, x.status(0));
    }

    private static void restores() {
        begin(39);
        FoldedInHalf x = new FoldedInHalf();
        due(-6, x.restore());
        due(1, x.status(16));
        due(0, x.image());
        letters(x, "strip 0 0 lr;strip 1 1 ll");
        due(2, x.read(7));
        x.show(0, 1);
        x.show(1, 0);
        due(0, x.restore());
        due(-1, x.holds(0));
        due(-1, x.holds(1));
        due(100, x.holds(7));
        due(2, x.read(7));
        due(2, x.image());
        x.act(0, 1, 1);
        letters(x, "x");
        x.read(7);
        x.show(0, 1);
        x.show(1, 0);
        x.drop();
        due(-1, x.holds(0));
        x.turn(0, 1);
        due(2, x.restore());
        due(-1, x.holds(0));
        due(0, x.holds(1));
        due(0, x.stripOf(0, 11));
        due(0, x.fault());
        due(11, x.trace(0));
        due(2, x.status(16));
        x.show(0, 1);
        due(2, x.restore());
        due(1, x.holds(0));
    }

    private static void status() {
        begin(40);
        FoldedInHalf x = of("strip 0 0 lrl;strip 1 1 ll;strip 5 0 rrrr");
        due(3, x.status(0));
        due(9, x.status(1));
        due(4, x.status(2));
        due(0, x.status(3));
        x.act(0, 2, 5);
        due(4, x.status(3));
        for (int what : new int[] {4, 10, 18, -1, MIN, MAX}) {
            due(-1, x.status(what));
        }
        x.turn(9, 0);
        x.set(9, 0, 0);
        x.show(0, 0);
        x.set(0, 0, 0);
        x.set(1, 0, 0);
        x.row(1, 0, -1);
        x.turn(0, 9);
        x.row(1, 9, 0);
        x.row(1, 0, 161);
        x.place(9, 0, 0);
        x.place(0, 0, 9);
        x.when(9, 0, 0, 0);
        int[] many = {4, 1, 1, 1, 2, 1, 1};
        for (int i = 0; i < 7; i++) {
            due(many[i], x.status(11 + i));
        }
        due(9, x.status(1));
    }
}
