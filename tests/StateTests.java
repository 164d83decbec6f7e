import java.util.ArrayList;
import java.util.List;
import java.util.Random;

/**
 * Long runs of mixed calls (up to 512 each) beside a plain model of what an object holds: shelves, strips, the image,
 * the fault, the trace and the refusals. What the strips' creases come to is asked by OracleTests.
 */
public final class StateTests {
    private static final int RUNS = 2500;
    private static final int CALLS = 512;
    private static final int[] ABOVE = {-1, 0, 0, 0, 3, 0, 5};
    private static final long[] BITS = {8, 16, 32, 64};
    private static int wrong = 0;
    private static final int[] answered = new int[1000];

    private final Random dice;
    private final FoldedInHalf x = new FoldedInHalf();
    private final StringBuilder log = new StringBuilder();
    private final Object[] shelves = new Object[8];
    private List<Paper> papers = new ArrayList<>();
    private List<Paper> image;
    private final int[] refusals = new int[8];
    private int fault = -1;
    private List<Integer> trace = new ArrayList<>();
    private int calls;

    private StateTests(int seed) {
        dice = new Random(seed);
    }

    public static void main(String[] args) {
        for (int seed = 0; seed < RUNS && wrong < 10; seed++) {
            new StateTests(seed).run();
        }
        for (int refusal = 1; refusal <= 7; refusal++) {
            if (answered[refusal] == 0) {
                wrong++;
                System.out.println("no run came to the refusal -" + refusal);
            }
        }
        System.out.println(wrong == 0 ? "all answers are as due" : wrong + " answers are not as due");
        if (wrong != 0) {
            System.exit(1);
        }
    }

    /** A row: its sort and its elements. */
    private static final class Row {
        final int sort;
        final long[] elements;

        Row(int sort, int n) {
            this.sort = sort;
            this.elements = new long[n];
        }
    }

    /** A strip: its kind, its a and the letters of its word. */
    private static final class Paper {
        final int kind;
        final int a;
        final List<Integer> word;

        Paper(int kind, int a, List<Integer> word) {
            this.kind = kind;
            this.a = a;
            this.word = new ArrayList<>(word);
        }

        long creases() {
            double all = Math.pow(kind == 2 ? 3 : 2, word.size()) - 1;
            return (long) all - cutOff();
        }

        long cutOff() {
            return kind == 3 || kind == 4 ? a % ((1L << word.size()) - 1) : 0;
        }

        int firstCrease() {
            return kind == 5 || kind == 6 ? 1 - word.get(0) : word.get(0);
        }
    }

    private static List<Paper> copies(List<Paper> papers) {
        List<Paper> copies = new ArrayList<>();
        for (Paper paper : papers) {
            copies.add(new Paper(paper.kind, paper.a, paper.word));
        }
        return copies;
    }

    private void due(String call, long want, long got) {
        calls++;
        log.append(call).append(" = ").append(want).append('\n');
        if (want < 0 && want > -8 && !call.startsWith("fault") && !call.startsWith("element")) {
            answered[(int) -want]++;
        }
        if (want != got) {
            wrong++;
            System.out.println(call + " answered " + got + ", due is " + want + ", behind:");
            System.out.println(log.substring(Math.max(0, log.length() - 600)));
        }
    }

    private int refuse(int why) {
        refusals[-why]++;
        return why;
    }

    /** A number from 0 to most, now and then one that is not. */
    private int about(int most) {
        switch (dice.nextInt(24)) {
            case 0:
                return -1;
            case 1:
                return most + 1;
            case 2:
                return dice.nextInt();
            default:
                return most < 0 ? 0 : dice.nextInt(most + 1);
        }
    }

    /** Mostly a shelf that holds a row, if there is one. */
    private int aboutRow() {
        int s = about(7);
        for (int i = 0; i < 8 && dice.nextInt(12) > 0 && noRow(s) != 0; i++) {
            s = (s & 7) == 7 ? 0 : (s & 7) + 1;
        }
        return s;
    }

    private void run() {
        while (calls < CALLS - 40) {
            switch (dice.nextInt(25)) {
                case 0 -> row(about(7), about(3), dice.nextInt(20) == 0 ? about(160) : 8 + about(8));
                case 1, 2 -> set(aboutRow(), about(9), dice.nextLong() >> dice.nextInt(64));
                case 3, 4 -> copy(aboutRow(), aboutRow(), about(4), about(4), about(5));
                case 5 -> element(aboutRow(), about(9));
                case 6, 7, 8 -> show(about(7), dice.nextInt(6) == 0 ? -1 : about(papers.size() - 1));
                case 9 -> says(about(7), about(6));
                case 10, 11, 12, 13 -> strip(about(6), about(dice.nextBoolean() ? 3 : 999999), aboutRow(), about(12));
                case 14, 15 -> stripOf(about(papers.size() - 1), dice.nextBoolean() ? about(2) : 10 + about(9));
                case 16 -> turn(about(papers.size() - 1), about(9));
                case 17, 18, 19 -> texts();
                case 20 -> drop();
                case 21, 22, 23 -> act(about(papers.size() - 1), about(2), dice.nextInt() >> dice.nextInt(32));
                default -> imageOrRestore();
            }
            allStands();
        }
    }

    private void allStands() {
        int letters = 0;
        int ones = 0;
        for (Paper paper : papers) {
            letters += paper.word.size();
            ones += paper.word.stream().mapToInt(Integer::intValue).sum();
        }
        int[] want = {papers.size(), letters, ones, trace.size()};
        int what = dice.nextInt(11);
        if (what < 4) {
            due("status(" + what + ")", want[what], x.status(what));
        } else {
            due("status(" + (what + 7) + ")", refusals[what - 3], x.status(what + 7));
        }
        int s = about(7);
        boolean none = s < 0 || s > 7 || shelves[s] == null;
        int held = none ? -1 : shelves[s] instanceof Row row ? 100 + row.sort : (int) shelves[s];
        due("holds(" + s + ")", held, x.holds(s));
        int i = about(9);
        due("trace(" + i + ")", i < 0 || i >= trace.size() ? -1 : trace.get(i), x.trace(i));
        due("fault()", fault, x.fault());
    }

    private static boolean isShelf(int s) {
        return s >= 0 && s < 8;
    }

    private boolean isStrip(int strip) {
        return strip >= 0 && strip < papers.size();
    }

    private int noRow(int s) {
        if (!isShelf(s)) {
            return -1;
        }
        return shelves[s] == null ? -3 : shelves[s] instanceof Row ? 0 : -2;
    }

    private void row(int s, int sort, int n) {
        int want = !isShelf(s) ? -1 : n < 0 ? -4 : sort < 0 || sort > 3 ? -6 : n > 160 ? -7 : 1;
        if (want == 1) {
            shelves[s] = new Row(sort, n);
        } else {
            refuse(want);
        }
        due("row(" + s + ", " + sort + ", " + n + ")", want, x.row(s, sort, n));
    }

    private void set(int s, int i, long v) {
        int want = noRow(s);
        if (want == 0) {
            Row row = (Row) shelves[s];
            if (i >= 0 && i < row.elements.length) {
                long away = 64 - BITS[row.sort];
                row.elements[i] = v << away >> away;
                want = 1;
            } else {
                want = -5;
            }
        }
        due("set(" + s + ", " + i + ", " + v + ")", want < 0 ? refuse(want) : want, x.set(s, i, v));
    }

    private void copy(int p, int q, int i, int j, int n) {
        int want = 1;
        if (!isShelf(p) || !isShelf(q)) {
            want = -1;
        } else if (shelves[p] instanceof Integer || shelves[q] instanceof Integer) {
            want = -2;
        } else if (shelves[p] == null || shelves[q] == null) {
            want = -3;
        } else {
            Row from = (Row) shelves[p];
            Row to = (Row) shelves[q];
            boolean beyond = i < 0 || j < 0 || (long) i + n > from.elements.length || (long) j + n > to.elements.length;
            want = from.sort != to.sort ? -2 : n < 0 ? -4 : beyond ? -5 : 1;
            if (want == 1) {
                long[] as = from.elements.clone();
                for (int k = 0; k < n; k++) {
                    to.elements[j + k] = as[i + k];
                }
            }
        }
        String call = "copy(" + p + ", " + q + ", " + i + ", " + j + ", " + n + ")";
        due(call, want < 0 ? refuse(want) : want, x.copy(p, q, i, j, n));
        if (want == 1) {
            element(q, j);
        }
    }

    private void element(int s, int i) {
        long want = 0;
        if (isShelf(s) && shelves[s] instanceof Row row && i >= 0 && i < row.elements.length) {
            want = row.elements[i];
        }
        due("element(" + s + ", " + i + ")", want, x.element(s, i));
    }

    private void show(int s, int strip) {
        int want = -1;
        if (isShelf(s) && (strip == -1 || isStrip(strip))) {
            shelves[s] = strip == -1 ? null : (Object) strip;
            want = strip == -1 ? 0 : 1;
        }
        due("show(" + s + ", " + strip + ")", want < 0 ? refuse(want) : want, x.show(s, strip));
        if (want == 1) {
            says(s, about(6));
        }
    }

    private void says(int s, int kind) {
        long want = -2;
        if (!isShelf(s) || kind < 0 || kind > 6) {
            want = -1;
        } else if (shelves[s] == null) {
            want = -3;
        } else if (shelves[s] instanceof Integer strip) {
            Paper paper = papers.get(strip);
            int above = paper.kind;
            while (above >= 0 && above != kind) {
                above = ABOVE[above];
            }
            if (above == kind) {
                long[] said = {paper.word.size(), paper.a % 2, paper.creases() % 1000, paper.cutOff() % 1000,
                    paper.cutOff() % 1000, paper.firstCrease(), paper.firstCrease()};
                want = said[kind];
            }
        }
        due("says(" + s + ", " + kind + ")", want < 0 ? refuse((int) want) : want, x.says(s, kind));
    }

    private void strip(int kind, int a, int s, int n) {
        int want = !isShelf(s) || kind < 0 || kind > 6 ? -1 : noRow(s);
        if (want == 0) {
            Row row = (Row) shelves[s];
            boolean may = n >= 1 && n <= (kind == 2 ? 25 : 40) && a >= 0 && a <= 999999;
            want = n < 0 ? -4 : n > row.elements.length ? -5 : !may ? -6 : papers.size() == 8 ? -7 : papers.size();
            if (want >= 0) {
                List<Integer> word = new ArrayList<>();
                for (int level = 0; level < n; level++) {
                    word.add(Math.floorMod(row.elements[level], 2));
                }
                papers.add(new Paper(kind, a, word));
            }
        }
        String call = "strip(" + kind + ", " + a + ", " + s + ", " + n + ")";
        due(call, want < 0 ? refuse(want) : want, x.strip(kind, a, s, n));
    }

    private void stripOf(int strip, int what) {
        int want = -5;
        if (isStrip(strip)) {
            Paper paper = papers.get(strip);
            List<Integer> all = new ArrayList<>(List.of(paper.kind, paper.a, paper.word.size()));
            while (all.size() < 10) {
                all.add(-5);
            }
            all.addAll(paper.word);
            want = what >= 0 && what < all.size() ? all.get(what) : -5;
            due("creases(" + strip + ")", paper.creases(), x.creases(strip));
        }
        due("stripOf(" + strip + ", " + what + ")", want < 0 ? refuse(want) : want, x.stripOf(strip, what));
    }

    private void turn(int strip, int level) {
        int want = -1;
        if (isStrip(strip)) {
            List<Integer> word = papers.get(strip).word;
            want = level < 0 || level >= word.size() ? -5 : word.get(level);
            if (want >= 0) {
                word.set(level, 1 - want);
            }
        }
        due("turn(" + strip + ", " + level + ")", want < 0 ? refuse(want) : want, x.turn(strip, level));
    }

    private void drop() {
        int want = papers.isEmpty() ? refuse(-6) : papers.size() - 1;
        if (want >= 0) {
            papers.remove(want);
            clearShelves();
        }
        due("drop()", want, x.drop());
    }

    private void clearShelves() {
        for (int s = 0; s < 8; s++) {
            if (shelves[s] instanceof Integer strip && strip >= papers.size()) {
                shelves[s] = null;
            }
        }
    }

    private void imageOrRestore() {
        if (dice.nextBoolean()) {
            image();
        } else {
            restore();
        }
    }

    private void image() {
        image = copies(papers);
        due("image()", papers.size(), x.image());
    }

    private void restore() {
        if (image == null) {
            due("restore()", refuse(-6), x.restore());
            return;
        }
        papers = copies(image);
        clearShelves();
        due("restore()", papers.size(), x.restore());
    }

    // Acts.

    private void act(int strip, int act, int with) {
        trace = new ArrayList<>();
        int want = isStrip(strip) && act >= 0 && act <= 2 ? body(strip, papers.get(strip).kind, act, with) : 0;
        due("act(" + strip + ", " + act + ", " + with + ")", want, x.act(strip, act, with));
    }

    /** The body of the act that a kind has, or the next one above it. */
    private int body(int m, int kind, int act, int with) {
        Paper paper = papers.get(m);
        int k = paper.a;
        int first = trace.size();
        trace.add(0);
        int of = kind;
        while (number(of, act) == 0) {
            of = ABOVE[of];
        }
        trace.set(first, number(of, act));
        switch (number(of, act)) {
            case 10:
                return with + m;
            case 11:
                return body(m, paper.kind, 0, with) * 2;
            case 12:
                int opened = body(m, paper.kind, 1, with);
                return opened ^ body(m, paper.kind, 0, with - k);
            case 20:
                return body(m, ABOVE[of], 0, with) + k;
            case 30:
                return body(m, ABOVE[of], 1, with) * 3;
            case 40:
                return body(m, ABOVE[of], 1, with + 1);
            case 50:
                return -body(m, ABOVE[of], 2, with);
            case 51:
                return body(m, ABOVE[of], 0, with) - m;
            case 60:
                return body(m, ABOVE[of], 2, with) ^ 5;
            case 70:
                return body(m, ABOVE[of], 0, with) * 2;
            default:
                return body(m, ABOVE[of], 1, with - k);
        }
    }

    private static int number(int kind, int act) {
        int[][] numbers = {{10, 11, 12}, {20, 0, 0}, {0, 30, 0}, {0, 40, 0}, {51, 0, 50}, {0, 0, 60}, {70, 71, 0}};
        return numbers[kind][act];
    }

    // Texts.

    private void texts() {
        String text = damaged(text());
        if (calls + text.length() > CALLS - 60) {
            return;
        }
        int s = dice.nextInt(8);
        row(s, dice.nextInt(4), text.length());
        for (int i = 0; i < text.length(); i++) {
            set(s, i, text.charAt(i) + ((long) dice.nextInt(3) << 32));
        }
        List<Paper> told = copies(papers);
        int[] itemsAndFault = tell(text, told);
        fault = itemsAndFault[1];
        if (fault == -1) {
            papers = told;
        }
        due("read(" + s + ") of " + text, fault == -1 ? itemsAndFault[0] : refuse(-6), x.read(s));
    }

    private String text() {
        List<String> items = new ArrayList<>();
        for (int i = dice.nextInt(4); i >= 0; i--) {
            int which = about(papers.size());
            switch (dice.nextInt(4)) {
                case 0 -> items.add("less " + Math.max(0, which % 1000000));
                case 1 -> items.add("turn " + Math.max(0, which % 1000000) + " " + dice.nextInt(12));
                default -> items.add("strip " + Math.max(0, about(6) % 1000000) + " " + a() + " " + word());
            }
        }
        return String.join(";", items);
    }

    private String a() {
        String[] some = {"0", "000000", "0000000", "999999", "1000000"};
        if (dice.nextBoolean()) {
            return some[dice.nextInt(some.length)];
        }
        return "" + dice.nextInt(dice.nextBoolean() ? 100 : 1000000);
    }

    private String word() {
        int levels = 1 + (dice.nextInt(8) == 0 ? 23 + dice.nextInt(19) : dice.nextInt(9));
        StringBuilder word = new StringBuilder();
        for (int i = 0; i < levels; i++) {
            word.append(dice.nextBoolean() ? 'l' : 'r');
        }
        return word.toString();
    }

    private String damaged(String text) {
        int at = dice.nextInt(text.length());
        String sign = "" + " ;0l9srx".charAt(dice.nextInt(8));
        String all = switch (dice.nextInt(12)) {
            case 0 -> text.substring(0, at);
            case 1 -> text.substring(0, at) + text.substring(at + 1);
            case 2 -> text.substring(0, at) + sign + text.substring(at);
            case 3 -> text.substring(0, at) + sign + text.substring(at + 1);
            default -> text;
        };
        return all.substring(0, Math.min(160, all.length()));
    }

    /** How many items there are, and the fault: of each item the longest beginning that can stand is looked for. */
    private static int[] tell(String text, List<Paper> told) {
        int from = 0;
        int items = 0;
        while (true) {
            int end = text.indexOf(';', from);
            String item = text.substring(from, end < 0 ? text.length() : end);
            int bad = badIn(item, told);
            if (bad >= 0) {
                return new int[] {items, from + bad};
            }
            items++;
            if (end < 0) {
                return new int[] {items, -1};
            }
            from = end + 1;
        }
    }

    /** The place in an item that can't stand (its length, if it ends too early), or -1, and then it is told. */
    private static int badIn(String item, List<Paper> told) {
        if (item.startsWith("strip") && told.size() == 8) {
            return 0;
        }
        String[] forms = {"strip 0 0 w", "turn 0 0", "less 0"};
        String form = "";
        for (String one : forms) {
            form = !item.isEmpty() && item.charAt(0) == one.charAt(0) ? one : form;
        }
        if (form.isEmpty()) {
            return 0;
        }
        List<Integer> numbers = new ArrayList<>();
        List<Integer> word = new ArrayList<>();
        int at = 0;
        for (char sign : form.toCharArray()) {
            int begin = at;
            if (sign == '0') {
                while (at < item.length() && at < begin + 6 && Character.isDigit(item.charAt(at))) {
                    at++;
                }
                numbers.add(at == begin ? -1 : Integer.parseInt(item.substring(begin, at)));
                if (numbers.get(numbers.size() - 1) < 0 || !mayBe(form, numbers, told)) {
                    return begin;
                }
            } else if (sign == 'w') {
                int most = numbers.get(0) == 2 ? 25 : 40;
                while (at < item.length() && at < begin + most && "rl".indexOf(item.charAt(at)) >= 0) {
                    word.add("rl".indexOf(item.charAt(at)));
                    at++;
                }
                if (at == begin) {
                    return begin;
                }
            } else if (at >= item.length() || item.charAt(at) != sign) {
                return at;
            } else {
                at++;
            }
        }
        if (at < item.length()) {
            return at;
        }
        carryOut(form, numbers, word, told);
        return -1;
    }

    private static boolean mayBe(String form, List<Integer> numbers, List<Paper> told) {
        int last = numbers.get(numbers.size() - 1);
        if (form.startsWith("strip")) {
            return numbers.size() > 1 || last <= 6;
        }
        if (numbers.size() == 1) {
            boolean mayLose = form.startsWith("turn") || last < told.size() && told.get(last).word.size() >= 2;
            return last < told.size() && mayLose;
        }
        return last < told.get(numbers.get(0)).word.size();
    }

    private static void carryOut(String form, List<Integer> numbers, List<Integer> word, List<Paper> told) {
        if (form.startsWith("strip")) {
            told.add(new Paper(numbers.get(0), numbers.get(1), word));
        } else if (form.startsWith("turn")) {
            List<Integer> turned = told.get(numbers.get(0)).word;
            turned.set(numbers.get(1), 1 - turned.get(numbers.get(1)));
        } else {
            List<Integer> less = told.get(numbers.get(0)).word;
            less.remove(less.size() - 1);
        }
    }
}
