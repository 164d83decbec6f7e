import java.util.function.Consumer;

/**
 * Each sentence of the document that names an edge: too small, the least, the greatest, too great, empty, full, wrapped
 * around. One test a sentence, by its own words, each on an object of its own. Which refusal a call answers, and in
 * which order, is asked by RefusalTests.
 */
public final class EdgeTests {
    private static final int MIN = Integer.MIN_VALUE;
    private static final int MAX = Integer.MAX_VALUE;
    private static final long NO_PLACE = -2000000000000000L;
    private static final String FORTY = "lrrlrlllrrrlrlrllrlrlrrrlllrlrrlrlrllrrl";
    private static final String TWENTY_FIVE = "lrrlrlllrrrlrlrllrlrlrrrl";
    private static int wrong = 0;
    private static int tests = 0;
    private static int row = 0;
    private static String sentence = "";

    public static void main(String[] args) {
        strips();
        texts();
        textsThatFail();
        creases();
        kindsOfCreases();
        laidOut();
        walked();
        nearest();
        fours();
        told();
        ends();
        pieces();
        leaves();
        pages();
        shelves();
        rows();
        copies();
        sayings();
        acts();
        images();
        status();
        calls();
        System.out.println(wrong == 0 ? tests + " tests: all answers are as due" : wrong + " answers are not as due");
        if (wrong != 0) {
            System.exit(1);
        }
    }

    private static void test(String words, Consumer<FoldedInHalf> asked) {
        sentence = words;
        row = 0;
        tests++;
        asked.accept(new FoldedInHalf());
    }

    private static void due(long want, long got) {
        row++;
        if (want != got) {
            wrong++;
            System.out.println(sentence + " -- row " + row + ": answered " + got + ", due is " + want);
        }
    }

    private static void due(long[] want, java.util.function.IntToLongFunction got) {
        for (int i = 0; i < want.length; i++) {
            due(want[i], got.applyAsLong(i));
        }
    }

    private static void put(FoldedInHalf x, int s, int sort, long... values) {
        x.row(s, sort, values.length);
        for (int i = 0; i < values.length; i++) {
            x.set(s, i, values[i]);
        }
    }

    /** Shelf 7 holds a text, as bytes. */
    private static void write(FoldedInHalf x, String text) {
        long[] values = new long[text.length()];
        for (int i = 0; i < values.length; i++) {
            values[i] = text.charAt(i);
        }
        put(x, 7, 0, values);
    }

    private static void read(FoldedInHalf x, String text) {
        write(x, text);
        if (x.read(7) < 0) {
            due(0, x.fault());
            System.out.println(sentence + ": can't read " + text);
        }
    }

    private static void stands(int items, FoldedInHalf x, String text) {
        write(x, text);
        due(items, x.read(7));
        due(-1, x.fault());
    }

    private static void fails(int fault, FoldedInHalf x, String text) {
        write(x, text);
        due(-6, x.read(7));
        due(fault, x.fault());
    }

    private static String some(char letter, int n) {
        return String.valueOf(letter).repeat(n);
    }

    /** Shelf 0 holds a word; a strip by it. */
    private static int make(FoldedInHalf x, int kind, int a, String word) {
        long[] letters = new long[word.length()];
        for (int i = 0; i < letters.length; i++) {
            letters[i] = word.charAt(i) == 'l' ? 1 : 0;
        }
        put(x, 0, 0, letters);
        return x.strip(kind, a, 0, letters.length);
    }

    private static void creasesDue(FoldedInHalf x, int strip, String bends) {
        due(bends.length(), x.creases(strip));
        for (int n = 1; n <= bends.length(); n++) {
            due(bends.charAt(n - 1) - '0', x.crease(strip, n));
        }
        due(-5, x.crease(strip, bends.length() + 1));
    }

    // Terms, 1.

    private static void strips() {
        test("STRIPS have numbers, from 0 on", x -> {
            due(-1, x.creases(0));
            due(0, make(x, 0, 0, "l"));
            due(1, make(x, 3, 0, "l"));
            due(1, x.creases(0));
            due(-1, x.creases(2));
            due(-1, x.creases(-1));
        });
        test("8 at most", x -> {
            for (int i = 0; i < 8; i++) {
                due(i, make(x, i % 7, i, "lr"));
            }
            due(-7, make(x, 0, 0, "lr"));
            due(8, x.status(0));
            due(7, x.stripOf(7, 1));
            due(7, x.drop());
            due(7, make(x, 0, 99, "lr"));
            due(99, x.stripOf(7, 1));
        });
        test("each of a KIND: 0 STRIP; 1 SAME, 2 THIRD, 3 CUT, 5 GLASS; 4 BACK; 6 LEFT", x -> {
            due(-1, make(x, -1, 0, "l"));
            for (int kind = 0; kind <= 6; kind++) {
                due(kind, make(x, kind, 0, "l"));
                due(kind, x.stripOf(kind, 0));
            }
            due(-1, make(x, 7, 0, "l"));
        });
        test("each under STRIP; 4 BACK, under CUT; 6 LEFT, under GLASS", x -> {
            int[] above = {-1, 0, 0, 0, 3, 0, 5};
            for (int kind = 0; kind <= 6; kind++) {
                make(x, kind, 0, "l");
                x.show(1, kind);
                for (int wanted = 0; wanted <= 6; wanted++) {
                    boolean under = wanted == kind || wanted == 0 || wanted == above[kind];
                    due(under ? 1 : 0, x.says(1, wanted) == -2 ? 0 : 1);
                }
            }
        });
        for (int kind = 0; kind <= 6; kind++) {
            int made = kind;
            int most = kind == 2 ? 25 : 40;
            test("FOLDS (1 to 40; THIRD 1 to 25), KIND " + kind, x -> {
                x.row(0, 0, 41);
                due(-6, x.strip(made, 0, 0, 0));
                due(0, x.strip(made, 0, 0, 1));
                due(1, x.stripOf(0, 2));
                due(1, x.strip(made, 0, 0, most));
                due(most, x.stripOf(1, 2));
                due(-6, x.strip(made, 0, 0, most + 1));
            });
        }
        test("a WORD: for each LEVEL 0 to FOLDS less 1 a letter", x -> {
            make(x, 0, 0, FORTY);
            for (int level = 0; level < 40; level++) {
                due(FORTY.charAt(level) == 'l' ? 1 : 0, x.stripOf(0, 10 + level));
            }
            due(-5, x.stripOf(0, 50));
            due(-5, x.stripOf(0, 9));
            due(-5, x.turn(0, -1));
            due(-5, x.turn(0, 40));
            due(1, x.turn(0, 0));
            due(1, x.turn(0, 39));
            due(0, x.stripOf(0, 10));
            due(0, x.stripOf(0, 49));
            due(0, x.turn(0, 39));
            due(1, x.stripOf(0, 49));
        });
        test("its WORD, by their lowest bits", x -> {
            put(x, 1, 3, Long.MIN_VALUE, Long.MAX_VALUE, -1, -2, 1L << 32, (1L << 32) + 1);
            due(0, x.strip(0, 0, 1, 6));
            due(new long[] {0, 1, 1, 0, 0, 1}, i -> x.stripOf(0, 10 + i));
        });
        test("A STRIP by the first n elements of the ROW", x -> {
            put(x, 1, 2, 0, 0, 1, 1, 1, 1);
            due(0, x.strip(0, 0, 1, 2));
            due(0, x.status(2));
            due(1, x.strip(0, 0, 1, 6));
            due(4, x.status(2));
            due(-5, x.strip(0, 0, 1, 7));
        });
        test("a (0 to 999,999)", x -> {
            due(0, make(x, 0, 0, "l"));
            due(0, x.stripOf(0, 1));
            due(1, make(x, 0, 999999, "l"));
            due(999999, x.stripOf(1, 1));
            due(-6, make(x, 0, -1, "l"));
            due(-6, make(x, 0, 1000000, "l"));
        });
    }

    private static void texts() {
        test("ITEM, then any number of times ; and ITEM: one", x -> stands(1, x, "strip 0 0 l"));
        test("any number of times: as many as a ROW has room for", x -> {
            make(x, 0, 0, FORTY);
            stands(23, x, "less 0;".repeat(22) + "less 0");
            due(17, x.stripOf(0, 2));
        });
        test("a new object has none to turn, and its first text makes them all", x -> {
            fails(5, x, "turn 0 0");
            fails(5, x, "less 0");
            stands(8, x, "strip 0 0 l;".repeat(7) + "strip 6 9 rr");
            due(8, x.status(0));
            due(9, x.stripOf(7, 1));
        });
        test("strip K A W (KIND: 0 to 6)", x -> {
            for (int kind = 0; kind <= 6; kind++) {
                stands(1, x, "strip " + kind + " 0 l");
                due(kind, x.stripOf(kind, 0));
            }
            fails(6, x, "strip 7 0 l");
            fails(6, x, "strip - 0 l");
        });
        test("a of 1 to 6 digits", x -> {
            stands(1, x, "strip 0 0 l");
            stands(1, x, "strip 0 999999 l");
            stands(1, x, "strip 0 000007 l");
            due(0, x.stripOf(0, 1));
            due(999999, x.stripOf(1, 1));
            due(7, x.stripOf(2, 1));
            fails(8, x, "strip 0  l");
            fails(14, x, "strip 0 1000000 l");
        });
        test("the WORD: 1 to 40 letters", x -> {
            fails(10, x, "strip 0 0 ");
            fails(10, x, "strip 0 0 ;strip 0 0 l");
            stands(1, x, "strip 0 0 r");
            due(1, x.stripOf(0, 2));
            stands(1, x, "strip 0 0 " + FORTY);
            due(40, x.stripOf(1, 2));
            fails(50, x, "strip 0 0 " + FORTY + "l");
            fails(50, x, "strip 6 0 " + FORTY + FORTY);
        });
        test("letters l (1) or r (0), LEVEL 0 first", x -> {
            stands(1, x, "strip 0 0 " + FORTY);
            for (int level = 0; level < 40; level++) {
                due(FORTY.charAt(level) == 'l' ? 1 : 0, x.stripOf(0, 10 + level));
            }
            fails(11, x, "strip 0 0 lx");
            fails(11, x, "strip 0 0 l1");
            fails(10, x, "strip 0 0 1");
            fails(10, x, "strip 0 0 R");
        });
        test("turn N L (letter of LEVEL L of STRIP N becomes the other one)", x -> {
            stands(2, x, "strip 0 0 lrl;strip 0 0 " + some('r', 40));
            stands(3, x, "turn 0 0;turn 0 2;turn 1 39");
            due(0, x.status(2) - 1);
            due(1, x.stripOf(1, 49));
            stands(2, x, "turn 0 0;turn 0 0");
            due(0, x.stripOf(0, 10));
            fails(7, x, "turn 0 3");
            fails(7, x, "turn 1 40");
            fails(5, x, "turn 2 0");
        });
        test("less N (one FOLD less, the last LEVEL", x -> {
            stands(1, x, "strip 0 0 " + some('l', 40));
            stands(1, x, "less 0");
            due(39, x.stripOf(0, 2));
            due(39, x.status(2));
            due((1L << 39) - 1, x.creases(0));
            due(-5, x.stripOf(0, 49));
        });
        test("the last LEVEL goes, the others stay", x -> {
            stands(2, x, "strip 0 0 rrl;less 0");
            due(0, x.status(2));
            due(2, x.stripOf(0, 2));
        });
        test("less: if there are 2 at least)", x -> {
            stands(2, x, "strip 0 0 lr;strip 0 0 l");
            stands(1, x, "less 0");
            due(1, x.stripOf(0, 2));
            due(1, x.stripOf(0, 10));
            fails(5, x, "less 0");
            fails(5, x, "less 1");
            due(1, x.stripOf(0, 2));
            due(1, x.stripOf(1, 2));
        });
        test("a CUT with a FOLD less begins behind another CREASE", x -> {
            stands(1, x, "strip 3 5 lll");
            creasesDue(x, 0, "00");
            stands(1, x, "less 0");
            creasesDue(x, 0, "0");
        });
        test("All is told over what there is", x -> {
            stands(1, x, "strip 0 0 ll");
            stands(4, x, "turn 0 0;strip 2 5 rr;turn 1 1;less 1");
            due(0, x.stripOf(0, 10));
            due(1, x.stripOf(1, 2));
            due(5, x.stripOf(1, 1));
            due(2, x.creases(1));
        });
        test("As ints: of longs the lowest 32 bits", x -> {
            String text = "strip 0 0 l";
            x.row(1, 3, 11);
            for (int i = 0; i < 11; i++) {
                x.set(1, i, text.charAt(i) - (1L << (32 + i)));
            }
            due(1, x.read(1));
            x.row(1, 1, 11);
            for (int i = 0; i < 11; i++) {
                x.set(1, i, text.charAt(i) + (i == 10 ? 256 : 65536));
            }
            due(-6, x.read(1));
            due(10, x.fault());
        });
        test("NUMBERS are of digits alone", x -> {
            stands(1, x, "strip 0 0 l");
            fails(8, x, "strip 0 / l");
            fails(8, x, "strip 0 : l");
            fails(9, x, "strip 0 0/ l");
            fails(9, x, "strip 0 0: l");
            fails(5, x, "less :");
            fails(7, x, "turn 0 /");
        });
    }

    private static void textsThatFail() {
        test("One blank between words, NUMBERS and the WORD", x -> {
            stands(1, x, "strip 0 0 ll");
            fails(6, x, "strip  0 0 l");
            fails(8, x, "strip 0  0 l");
            fails(10, x, "strip 0 0  l");
            fails(5, x, "strip0 0 l");
            fails(7, x, "strip 0l");
            fails(9, x, "strip 0 0l");
            fails(4, x, "turn0 0");
            fails(5, x, "turn  0 0");
            fails(7, x, "turn 0  0");
            fails(4, x, "less0");
            fails(5, x, "less  0");
        });
        test("no blank ahead of an ITEM or behind it", x -> {
            stands(1, x, "strip 0 0 ll");
            fails(0, x, " less 0");
            fails(6, x, "less 0 ");
            fails(8, x, "turn 0 0 ");
            fails(11, x, "strip 0 0 l ");
            fails(9, x, "turn 0 0; less 0");
            fails(8, x, "turn 0 0 ;less 0");
        });
        test("All is told, or nothing: of turned ones, shortened ones and new ones none stays", x -> {
            stands(2, x, "strip 0 0 ll;strip 3 1 rrr");
            fails(42, x, "turn 0 1;less 1;strip 0 0 l;less 0;turn 2 1");
            due(2, x.status(0));
            due(5, x.status(1));
            due(2, x.status(2));
            due(6, x.creases(1));
        });
        test("what there is no room for can't stand: its word", x -> {
            stands(7, x, "strip 0 0 l;".repeat(6) + "strip 0 0 ll");
            fails(21, x, "turn 6 0;strip 1 1 r;strip 0 0 l");
            due(7, x.status(0));
            due(1, x.stripOf(6, 10));
            stands(1, x, "strip 1 1 r");
            fails(0, x, "strip 1 1 r");
            fails(7, x, "less 6;strip 1 1 r");
            due(2, x.stripOf(6, 2));
            stands(1, x, "less 6");
        });
        test("Whether there is room for a word is asked when its letters stand whole", x -> {
            stands(8, x, "strip 0 0 l;".repeat(7) + "strip 0 0 l");
            fails(0, x, "strip");
            fails(0, x, "strip ");
            fails(0, x, "stripe");
            fails(0, x, "strip 9 0 l");
            fails(0, x, "strip;");
            fails(9, x, "turn 0 0;strip");
        });
        test("until then the first element that is not as it is the FAULT, or the number of elements", x -> {
            stands(8, x, "strip 0 0 l;".repeat(7) + "strip 0 0 l");
            for (int i = 1; i < 5; i++) {
                fails(i, x, "strip".substring(0, i));
                fails(i, x, "strip".substring(0, i) + "-");
                fails(9 + i, x, "turn 0 0;" + "strip".substring(0, i));
            }
            fails(2, x, "st;turn 0 0");
        });
        test("of less that may not be: N", x -> {
            stands(2, x, "strip 0 0 l;strip 0 0 ll");
            fails(5, x, "less 0");
            fails(5, x, "less 0-");
            fails(5, x, "less 2");
            fails(12, x, "less 1;less 1");
            fails(14, x, "turn 1 1;less 0;less 1");
        });
        String whole = "strip 2 12 lr;turn 0 1;less 0";
        for (int i = 0; i < whole.length(); i++) {
            int size = i;
            boolean ends = i == 12 || i == 13 || i == 22;
            test("the number of elements, if it ends too early: behind " + i, x -> {
                write(x, whole.substring(0, size));
                due(!ends ? -6 : size == 22 ? 2 : 1, x.read(7));
                due(ends ? -1 : size, x.fault());
                due(ends ? 1 : 0, x.status(0));
            });
            test("the first place at which an element can't stand: " + i, x -> {
                fails(size, x, whole.substring(0, size) + "!" + whole.substring(size + 1));
                due(0, x.status(0));
            });
        }
        test("as such texts go on: what follows an ITEM is a ;", x -> {
            fails(whole.length() + 1, x, whole + ";");
            fails(whole.length(), x, whole + "!");
            fails(whole.length() + 1, x, whole + ";;");
            fails(0, x, ";" + whole);
        });
        test("the number of elements of an empty ROW", x -> fails(0, x, ""));
        test("of a NUMBER that may not be the place of its first digit", x -> {
            stands(1, x, "strip 0 0 " + FORTY);
            fails(6, x, "strip 7 0 l");
            fails(6, x, "strip 10 0 l");
            fails(6, x, "strip 99");
            fails(5, x, "turn 1 0");
            fails(5, x, "turn 10 0");
            fails(7, x, "turn 0 40");
            fails(7, x, "turn 0 99");
            fails(7, x, "turn 0 40;");
            stands(1, x, "turn 0 39");
            fails(5, x, "less 10");
        });
        test("of a WORD too long for a THIRD the letter that is one too many", x -> {
            stands(1, x, "strip 2 0 " + TWENTY_FIVE);
            fails(35, x, "strip 2 0 " + TWENTY_FIVE + "l");
            fails(35, x, "strip 2 0 " + FORTY);
            fails(44, x, "turn 0 0;strip 2 0 " + FORTY + FORTY);
        });
        test("fault(): NONE: none yet", x -> due(-1, x.fault()));
        test("fault(): of the latest read()", x -> {
            fails(1, x, "sx");
            fails(2, x, "stx");
            stands(1, x, "strip 0 0 l");
        });
        test("fault(): that came to a ROW", x -> {
            fails(2, x, "stx");
            x.show(1, -1);
            due(-3, x.read(1));
            due(-1, x.read(8));
            due(2, x.fault());
            make(x, 0, 0, "l");
            x.show(1, 0);
            due(-2, x.read(1));
            due(2, x.fault());
        });
    }

    // Terms, 2.

    private static void creases() {
        test("CREASES have numbers, from 1 on", x -> {
            make(x, 0, 0, "lr");
            due(-5, x.crease(0, 0));
            due(1, x.crease(0, 1));
            due(-5, x.crease(0, -1));
        });
        int[] plain = {0, 1, 5, 6};
        for (int kind : plain) {
            test("How many: 2 to the power of FOLDS, less 1: KIND " + kind, x -> {
                make(x, kind, 7, "l");
                make(x, kind, 7, FORTY);
                due(1, x.creases(0));
                due(1099511627775L, x.creases(1));
                due(0, x.crease(1, 1099511627775L) / 2);
                due(-5, x.crease(1, 1099511627776L));
            });
        }
        test("of a THIRD 3 to the power of FOLDS, less 1", x -> {
            make(x, 2, 7, "l");
            make(x, 2, 7, TWENTY_FIVE);
            due(2, x.creases(0));
            due(847288609442L, x.creases(1));
            due(-5, x.crease(0, 3));
            due(0, x.crease(1, 847288609442L));
            due(-5, x.crease(1, 847288609443L));
        });
        for (int kind = 3; kind <= 4; kind++) {
            int cut = kind;
            test("of a CUT (and BACK) b fewer, b: a modulo how many a STRIP would have: KIND " + kind, x -> {
                int[] a = {0, 1, 6, 7, 8, 13, 14, 999999};
                long[] many = {7, 6, 1, 7, 6, 1, 7, 7};
                for (int i = 0; i < a.length; i++) {
                    make(x, cut, a[i], "llr");
                    due(many[i], x.creases(i));
                }
            });
            test("of one CREASE none can be cut off: KIND " + kind, x -> {
                make(x, cut, 0, "l");
                make(x, cut, 1, "l");
                make(x, cut, 999999, "l");
                due(new long[] {1, 1, 1}, x::creases);
            });
            test("b where there are more CREASES than a: KIND " + kind, x -> {
                make(x, cut, 999999, FORTY);
                due(1099511627775L - 999999, x.creases(0));
                due(-5, x.crease(0, 1099511627776L - 999999));
            });
        }
        test("(0: at the beginning)", x -> {
            make(x, 3, 0, "lrl");
            make(x, 3, 7, "lrl");
            creasesDue(x, 0, "1001110");
            creasesDue(x, 1, "1001110");
        });
        for (int kind = 0; kind <= 6; kind++) {
            int made = kind;
            test("SIDES: one more than CREASES: KIND " + kind, x -> {
                make(x, made, 3, "lrl");
                int creases = (int) x.creases(0);
                due(0, x.way(0, creases + 1) / 4);
                due(-5, x.way(0, creases + 2));
                due(-5, x.way(0, 0));
                due(1, Math.abs(x.place(0, creases + 1, 0)) < 99 ? 1 : 0);
                due(NO_PLACE - 5, x.place(0, creases + 2, 0));
                due(NO_PLACE - 5, x.place(0, -1, 0));
                due(0, x.passed(0, creases + 1, 99, 0));
                due(-5, x.passed(0, creases + 2, 99, 0));
            });
        }
    }

    private static void kindsOfCreases() {
        test("STRIP: the letter of LEVEL k, if m modulo 4 is 1, else the other one", x -> {
            make(x, 0, 0, FORTY);
            for (int level = 0; level < 40; level++) {
                int letter = FORTY.charAt(level) == 'l' ? 1 : 0;
                due(letter, x.crease(0, 1L << level));
                if (level < 38) {
                    due(1 - letter, x.crease(0, 3L << level));
                    due(letter, x.crease(0, 5L << level));
                    due(1 - letter, x.crease(0, 7L << level));
                }
            }
            due(0, x.crease(0, 1099511627775L));
            due(1, x.crease(0, 3L << 38));
        });
        test("a STRIP of one FOLD", x -> {
            make(x, 0, 0, "l");
            make(x, 0, 0, "r");
            creasesDue(x, 0, "1");
            creasesDue(x, 1, "0");
        });
        test("SAME: so, but all letters a modulo 2", x -> {
            make(x, 1, 0, "lll");
            make(x, 1, 1, "rrr");
            make(x, 1, 999999, "lrl");
            make(x, 1, 999998, "lrl");
            creasesDue(x, 0, "0010011");
            creasesDue(x, 1, "1101100");
            creasesDue(x, 2, "1101100");
            creasesDue(x, 3, "0010011");
            x.turn(0, 0);
            creasesDue(x, 0, "0010011");
        });
        test("SAME of 40 FOLDS, its last LEVEL too", x -> {
            make(x, 1, 1, some('r', 40));
            due(1, x.crease(0, 1L << 39));
            due(0, x.crease(0, 3L << 38));
        });
        test("THIRD: the letter of LEVEL k, if m modulo 3 is 1, else the other one", x -> {
            make(x, 2, 0, TWENTY_FIVE);
            long power = 1;
            for (int level = 0; level < 25; level++) {
                int letter = TWENTY_FIVE.charAt(level) == 'l' ? 1 : 0;
                due(letter, x.crease(0, power));
                due(1 - letter, x.crease(0, 2 * power));
                if (level < 23) {
                    due(letter, x.crease(0, 4 * power));
                    due(1 - letter, x.crease(0, 5 * power));
                }
                power *= 3;
            }
            make(x, 2, 0, "r");
            creasesDue(x, 1, "01");
        });
        test("CUT: that of number n and b of a STRIP", x -> {
            make(x, 3, 1, "lrl");
            make(x, 3, 6, "lrl");
            creasesDue(x, 0, "001110");
            creasesDue(x, 1, "0");
        });
        test("BACK: of number (CREASES and 1) less n of the CUT, the other one", x -> {
            make(x, 4, 0, "lrl");
            make(x, 4, 3, "lrl");
            make(x, 4, 6, "lrl");
            creasesDue(x, 0, "1000110");
            creasesDue(x, 1, "1000");
            creasesDue(x, 2, "1");
        });
        test("GLASS: the other one than a STRIP's", x -> {
            make(x, 5, 0, "lrl");
            make(x, 5, 0, some('r', 40));
            creasesDue(x, 0, "0110001");
            due(1, x.crease(1, 1L << 39));
            due(0, x.crease(1, 3L << 38));
        });
        test("LEFT: as a GLASS, but 1 where n is a multiple of 4", x -> {
            make(x, 6, 0, "lrlr");
            make(x, 6, 0, "l");
            make(x, 6, 0, "lr");
            make(x, 6, 0, some('l', 40));
            creasesDue(x, 0, "011100110111001");
            creasesDue(x, 1, "0");
            creasesDue(x, 2, "011");
            due(1, x.crease(3, 1L << 39));
            due(1, x.crease(3, 1099511627772L));
            due(1, x.crease(3, 1099511627775L));
            due(1, x.crease(3, 3L << 38));
        });
    }

    private static void laidOut() {
        for (int kind = 0; kind <= 6; kind++) {
            int made = kind;
            test("it begins at (0, 0), the first SIDE goes to (1, 0): KIND " + kind, x -> {
                make(x, made, 5, "rlr");
                due(0, x.place(0, 0, 0));
                due(0, x.place(0, 0, 1));
                due(1, x.place(0, 1, 0));
                due(0, x.place(0, 1, 1));
                due(0, x.way(0, 1));
            });
            test("a strip of one FOLD, laid out whole: KIND " + kind, x -> {
                make(x, made, 1, "l");
                int left = made == 5 || made == 6 ? 0 : 1;
                left = made == 4 ? 0 : left;
                due(left, x.crease(0, 1));
                due(left == 1 ? 1 : 3, x.way(0, 2));
                due(1, x.place(0, 2, 0));
                due(left == 1 ? 1 : -1, x.place(0, 2, 1));
            });
        }
        test("1: the next one goes a WAY on (from 3 to 0)", x -> {
            make(x, 6, 0, "lll");
            due(new long[] {0, 0, 3, 2, 3, 0}, n -> n == 0 ? 0 : x.way(0, n));
            due(1, x.crease(0, 4));
        });
        test("0: a WAY back (from 0 to 3)", x -> {
            make(x, 0, 0, "rrr");
            due(new long[] {0, 0, 3, 2, 3, 2, 1, 2, 3}, n -> n == 0 ? 0 : x.way(0, n));
        });
        test("WAY 0 is so, 1 up (y grows), 2 back, 3 down", x -> {
            make(x, 0, 0, "lll");
            make(x, 5, 0, "lll");
            long[] there = {0, 1, 1, 0, 0, -1, -1, -2, -2};
            long[] up = {0, 0, 1, 1, 2, 2, 1, 1, 2};
            due(there, n -> x.place(0, n, 0));
            due(up, n -> x.place(0, n, 1));
            due(there, n -> x.place(1, n, 0));
            due(up, n -> -x.place(1, n, 1));
        });
        test("PLACE n: where it is behind n SIDES, however far", x -> {
            make(x, 0, 0, some('l', 40));
            make(x, 3, 0, some('l', 40));
            make(x, 5, 0, some('l', 40));
            make(x, 1, 1, some('r', 40));
            for (int strip = 0; strip < 4; strip++) {
                due(1048576, x.place(strip, 1L << 40, 0));
                due(0, x.place(strip, 1L << 40, 1));
                due(1048576 - (x.way(strip, 1L << 40) == 0 ? 1 : 0), x.place(strip, (1L << 40) - 1, 0));
                due(NO_PLACE - 5, x.place(strip, (1L << 40) + 1, 0));
            }
        });
        test("PLACE n of a THIRD, however far", x -> {
            make(x, 2, 0, TWENTY_FIVE);
            long atX = 1;
            long atY = 0;
            long n = 1;
            for (int level = 0; level < 25; level++) {
                // Three sides of one: on, a quarter to the left or right, and on again.
                int to = TWENTY_FIVE.charAt(level) == 'l' ? 1 : -1;
                long nextX = 2 * atX - to * atY;
                atY = 2 * atY + to * atX;
                atX = nextX;
                n *= 3;
                due(atX, x.place(0, n, 0));
                due(atY, x.place(0, n, 1));
            }
            due(847288609443L, n);
            for (long back = 0; back < 3; back++) {
                int way = x.way(0, n - back);
                long sideX = x.place(0, n - back, 0) - x.place(0, n - back - 1, 0);
                long sideY = x.place(0, n - back, 1) - x.place(0, n - back - 1, 1);
                due(way == 0 ? 1 : way == 2 ? -1 : 0, sideX);
                due(way == 1 ? 1 : way == 3 ? -1 : 0, sideY);
            }
        });
        for (int kind = 0; kind <= 6; kind++) {
            int made = kind;
            test("WAY n: each CREASE turns it by one, to the last SIDE: KIND " + kind, x -> {
                make(x, made, 8, made == 2 ? TWENTY_FIVE : FORTY);
                long sides = x.creases(0) + 1;
                long[] from = {1, 30, 100000, (1L << 32) - 5, sides - 20};
                for (long first : from) {
                    for (long n = first; n < first + 20; n++) {
                        int turned = x.crease(0, n) == 1 ? 1 : 3;
                        due((x.way(0, n) + turned) % 4, x.way(0, n + 1));
                    }
                }
                due(-5, x.way(0, sides + 1));
            });
        }
        for (int kind = 0; kind <= 6; kind++) {
            int made = kind;
            test("PLACE n: each SIDE leads from one to the next, to the last: KIND " + kind, x -> {
                make(x, made, 8, made == 2 ? TWENTY_FIVE : FORTY);
                long sides = x.creases(0) + 1;
                long[] from = {1, 28, 99990, (1L << 32) - 5, sides - 10};
                for (long first : from) {
                    for (long n = first; n <= first + 10 && (made != 6 || n <= 100000); n++) {
                        int way = x.way(0, n);
                        due(way == 0 ? 1 : way == 2 ? -1 : 0, x.place(0, n, 0) - x.place(0, n - 1, 0));
                        due(way == 1 ? 1 : way == 3 ? -1 : 0, x.place(0, n, 1) - x.place(0, n - 1, 1));
                    }
                }
                due(NO_PLACE - 5, x.place(0, sides + 1, 0));
            });
        }
        test("WAY n of a LEFT, where PLACE n can't be told any more", x -> {
            make(x, 6, 0, some('l', 40));
            due(0, x.way(0, 1));
            due(0, x.way(0, 100001));
            due(0, x.way(0, (1L << 40) - 15));
            due(2, x.way(0, (1L << 40) - 7));
            due(NO_PLACE - 7, x.place(0, (1L << 40) - 7, 0));
        });
        test("WAY n, however far", x -> {
            make(x, 0, 0, some('l', 40));
            make(x, 2, 0, some('l', 25));
            due(1, x.way(0, 1L << 40));
            due(0, x.way(1, 847288609443L));
            due(-5, x.way(0, (1L << 40) + 1));
            due(-5, x.way(1, 847288609444L));
        });
        test("place(): of a LEFT n is 100,000 at most", x -> {
            make(x, 6, 0, some('r', 17));
            make(x, 5, 0, some('r', 17));
            due(0, x.place(0, 100000, 0));
            due(0, x.place(0, 100000, 1));
            due(1, Math.abs(x.place(0, 99999, 0)) + Math.abs(x.place(0, 99999, 1)));
            due(NO_PLACE - 7, x.place(0, 100001, 0));
            due(NO_PLACE - 7, x.place(0, 131072, 1));
            due(NO_PLACE - 5, x.place(0, 131073, 1));
            due(1, x.place(1, 100001, 0) > NO_PLACE ? 1 : 0);
            due(2, x.status(17));
        });
        test("a LEFT shorter than that ends where it ends", x -> {
            make(x, 6, 0, some('r', 16));
            due(0, x.place(0, 65536, 0));
            due(NO_PLACE - 5, x.place(0, 65537, 0));
        });
        test("places may be below 0", x -> {
            make(x, 0, 0, "rrr");
            due(-2, x.place(0, 7, 0));
            due(-1, x.place(0, 6, 1));
            make(x, 5, 0, some('l', 38));
            due(-262144, x.place(1, 1L << 36, 0));
            due(-524288, -x.place(1, 1L << 38, 1));
        });
    }

    // Terms, 3.

    private static void walked() {
        test("WALKED: 0 SIDES", x -> {
            make(x, 0, 0, "l");
            due(1, x.passed(0, 0, 0, 0));
            due(0, x.passed(0, 0, 1, 0));
            due(1, x.most(0, 0));
            due(0, x.twice(0, 0));
            due(1, x.cover(0, 0));
        });
        test("WALKED: no more SIDES than there are", x -> {
            make(x, 0, 0, "lr");
            due(1, x.passed(0, 4, (int) x.place(0, 4, 0), (int) x.place(0, 4, 1)));
            due(-5, x.passed(0, 5, 0, 0));
            due(1, x.most(0, 4));
            due(-5, x.most(0, 5));
            due(0, x.twice(0, 4));
            due(-5, x.twice(0, 5));
            due(5, x.cover(0, 4));
            due(-5, x.cover(0, 5));
        });
        test("WALKED: 4000 SIDES where there are just so many or more", x -> {
            make(x, 3, 95, some('r', 12));
            due(4000, x.creases(0));
            due(1, x.passed(0, 4000, (int) x.place(0, 4000, 0), (int) x.place(0, 4000, 1)) > 0 ? 1 : 0);
            due(-6, x.passed(0, 4001, 0, 0));
            due(2, x.most(0, 4000));
            due(-6, x.most(0, 4001));
            due(0, x.twice(0, 4000));
            due(-6, x.twice(0, 4001));
            due(1, x.cover(0, 4000) > 2000 ? 1 : 0);
            due(-6, x.cover(0, 4001));
            due(-5, x.cover(0, 4002));
        });
        test("WALKED: below 0", x -> {
            make(x, 0, 0, "lr");
            due(-6, x.passed(0, -1, 0, 0));
            due(-6, x.most(0, -1));
            due(-6, x.twice(0, -1));
            due(-6, x.cover(0, MIN));
        });
        test("PASSED: PLACES 0 to n, both ends too", x -> {
            make(x, 6, 0, "rrrrr");
            due(1, x.passed(0, 15, 0, 0));
            due(2, x.passed(0, 16, 0, 0));
            due(2, x.passed(0, 31, 0, 0));
            due(3, x.passed(0, 32, 0, 0));
            due(0, x.passed(0, 0, 1, 0));
            due(1, x.passed(0, 1, 1, 0));
        });
        test("PASSED: at (x, y) however far off", x -> {
            make(x, 0, 0, "lr");
            due(0, x.passed(0, 4, MAX, MIN));
            due(0, x.passed(0, 4, MIN, 0));
        });
        test("MOST: PLACES 0 to n, both ends too", x -> {
            make(x, 6, 0, "rrrrr");
            due(1, x.most(0, 10));
            due(2, x.most(0, 11));
            due(2, x.most(0, 16));
            due(4, x.most(0, 32));
        });
        test("twice: how many of the n SIDES were gone along ahead already (either way)", x -> {
            make(x, 6, 0, "rrrrr");
            due(0, x.twice(0, 16));
            due(1, x.twice(0, 17));
            due(16, x.twice(0, 32));
        });
        test("COVER: unlike PLACES among 0 to n", x -> {
            make(x, 6, 0, "rrrrr");
            due(2, x.cover(0, 1));
            due(11, x.cover(0, 10));
            due(11, x.cover(0, 11));
            due(13, x.cover(0, 16));
            due(13, x.cover(0, 32));
        });
        test("when: the i-th time (from 0 on)", x -> {
            make(x, 6, 0, "rrrrr");
            due(0, x.when(0, 0, 0, 0));
            due(16, x.when(0, 0, 0, 1));
            due(32, x.when(0, 0, 0, 2));
            due(-1, x.when(0, 0, 0, 3));
            due(-1, x.when(0, 0, 0, MAX));
            due(-15, x.when(0, 0, 0, -1));
        });
        test("when: 0 to 4000 SIDES", x -> {
            make(x, 6, 0, some('r', 12));
            due(4000, x.when(0, 0, 0, 250));
            due(-1, x.when(0, 0, 0, 251));
            due(4096, x.creases(0) + 1);
        });
        test("when: what it comes to behind 4001 SIDES is NONE", x -> {
            // The last place of each, where it is for the first time.
            make(x, 3, 94, some('r', 12));
            make(x, 3, 95, some('r', 12));
            make(x, 3, 96, some('r', 12));
            firstTime(x, 0, 4002);
            firstTime(x, 1, 4001);
            firstTime(x, 2, 4000);
        });
        test("when: no more SIDES than there are", x -> {
            make(x, 0, 0, "lr");
            due(4, x.when(0, (int) x.place(0, 4, 0), (int) x.place(0, 4, 1), 0));
            due(-1, x.when(0, (int) x.place(0, 4, 0), (int) x.place(0, 4, 1), 1));
            due(-1, x.when(0, 0, 0, 1));
            due(-1, x.when(0, MIN, MAX, 0));
        });
    }

    private static void firstTime(FoldedInHalf x, int strip, int sides) {
        due(sides, x.creases(strip) + 1);
        int atX = (int) x.place(strip, sides, 0);
        int atY = (int) x.place(strip, sides, 1);
        due(sides > 4000 ? -1 : 4000, x.when(strip, atX, atY, 0));
    }

    private static void nearest() {
        test("NEAREST: n 0 to 4000", x -> {
            make(x, 0, 0, FORTY);
            make(x, 5, 0, FORTY);
            due(25, x.near(0, 1, 0, 3, 4, 0));
            due(0, x.near(0, 1, 0, 3, 4, 1));
            due(1, x.near(0, 1, 4000, 0, 0, 0) == 0 ? 1 : 0);
            due(-6, x.near(0, 1, 4001, 0, 0, 0));
            due(-6, x.near(0, 1, -1, 0, 0, 0));
        });
        test("NEAREST: from (dx, dy) on (-100 to 100 each)", x -> {
            make(x, 0, 0, "lll");
            due(20000, x.near(0, 0, 8, 100, 100, 0));
            due(20000, x.near(0, 0, 8, -100, -100, 0));
            due(10000, x.near(0, 0, 8, 100, 0, 0));
            due(10000, x.near(0, 0, 8, 0, -100, 0));
            due(-6, x.near(0, 0, 8, 101, 0, 0));
            due(-6, x.near(0, 0, 8, -101, 0, 0));
            due(-6, x.near(0, 0, 8, 0, 101, 0));
            due(-6, x.near(0, 0, 8, 0, -101, 0));
            due(-6, x.near(0, 0, 8, MIN, 0, 0));
            due(-6, x.near(0, 0, 8, 0, MAX, 0));
        });
        test("NEAREST: at any of PLACES 0 to n, the last one too", x -> {
            make(x, 0, 0, "ll");
            make(x, 5, 0, "ll");
            due(4, x.near(0, 1, 1, 0, 2, 0));
            due(0, x.near(0, 1, 1, 0, 2, 1));
            due(0, x.near(0, 1, 2, 0, 2, 0));
            due(2, x.near(0, 1, 2, 0, 2, 1));
        });
        test("NEAREST: the first time", x -> {
            make(x, 0, 0, "lll");
            due(0, x.near(0, 0, 8, 5, 5, 1));
            make(x, 5, 0, "lll");
            due(0, x.near(0, 1, 8, 0, 0, 1));
            due(2, x.near(0, 1, 8, 0, 2, 1));
        });
        test("NEAREST: not so many SIDES of either", x -> {
            make(x, 0, 0, "l");
            make(x, 0, 0, "ll");
            due(0, x.near(0, 1, 2, 0, 0, 0));
            due(-5, x.near(0, 1, 3, 0, 0, 0));
            due(-5, x.near(1, 0, 3, 0, 0, 0));
            due(0, x.near(1, 1, 4, 0, 0, 0));
            due(-5, x.near(1, 1, 5, 0, 0, 0));
        });
    }

    private static void fours() {
        test("FOUR: n 0 to 1000", x -> {
            make(x, 1, 1, some('l', 12));
            due(0, x.four(0, 0));
            due(1, x.four(0, 1000) > 10 ? 1 : 0);
            due(-6, x.four(0, 1001));
            due(-6, x.four(0, -1));
        });
        test("FOUR: all SIDES no farther than REACH either way are gone along", x -> {
            make(x, 1, 1, some('l', 12));
            // The twelve sides round (0, 0) are gone along by three sides each.
            due(0, x.four(0, 2));
            due(1, x.four(0, 3));
            due(-5, x.four(0, 4097));
        });
        test("FOUR: n SIDES each, no more than there are", x -> {
            make(x, 1, 1, "ll");
            due(1, x.four(0, 4));
            due(-5, x.four(0, 5));
        });
        test("FOUR: and none of them oftener", x -> {
            make(x, 6, 0, some('r', 12));
            due(0, x.four(0, 0));
            due(1, x.four(0, 3));
            due(0, x.four(0, 32));
            due(0, x.four(0, 1000));
        });
        test("FOUR: a SIDE that one goes out along and another one comes back along", x -> {
            make(x, 3, 7, "llll");
            creasesDue(x, 0, "11100100");
            due(1, x.four(0, 3));
            due(0, x.four(0, 4));
        });
    }

    private static void told() {
        int[] sizes = {0, 1, 2, 3, 4, 7, 8, 15, 16, 31, 32, 63};
        int[] levels = {0, 1, 2, 2, 3, 3, 4, 4, 5, 5, 6, 6};
        test("TOLD: n 0 to 63", x -> {
            x.row(0, 0, 64);
            make(x, 0, 0, FORTY);
            x.row(1, 3, 64);
            due(0, x.words(1, 0, -1));
            due(-1, x.wrong(1, 0));
            due(0, x.mend(1, 0));
            due(-1, x.judge(0, 1, 0));
            due(-1, x.words(1, 63, -1));
            due(3, x.wrong(1, 63));
            due(1, x.mend(1, 63) > 0 ? 1 : 0);
            due(1, x.judge(0, 1, 63));
            due(-16, x.words(1, 64, -1));
            due(-16, x.wrong(1, 64));
            due(-6, x.mend(1, 64));
            due(-16, x.judge(0, 1, 64));
            due(-14, x.words(1, -1, -1));
        });
        test("TOLD: an empty ROW", x -> {
            x.row(1, 0, 0);
            make(x, 0, 0, "l");
            due(0, x.words(1, 0, -1));
            due(-15, x.words(1, 0, 0));
            due(-15, x.words(1, 1, -1));
            due(-1, x.wrong(1, 0));
            due(0, x.mend(1, 0));
            due(-1, x.judge(0, 1, 0));
        });
        test("WORDS of as many LEVELS as CREASES 1 to n reach", x -> {
            x.row(1, 0, 63);
            for (int i = 0; i < 63; i++) {
                x.set(1, i, 2);
            }
            for (int i = 0; i < sizes.length; i++) {
                due(levels[i], x.words(1, sizes[i], -1));
                due(-15, x.words(1, sizes[i], levels[i]));
                if (levels[i] > 0) {
                    due(0, x.words(1, sizes[i], levels[i] - 1));
                }
            }
            due(-15, x.words(1, 63, -2));
        });
        test("elements 0, 1, others not seen (they may be either)", x -> {
            put(x, 1, 3, 2, -1, 3, Long.MIN_VALUE + 5, MAX, 127, -128);
            make(x, 0, 0, FORTY);
            due(3, x.words(1, 7, -1));
            due(-1, x.wrong(1, 7));
            due(0, x.mend(1, 7));
            due(-1, x.judge(0, 1, 7));
            due(7, x.piece(0, 1, 7, 0) - 3987);
        });
        test("As ints: what is seen of longs is their lowest 32 bits", x -> {
            put(x, 1, 3, 1L << 32, (1L << 32) + 1, 1);
            make(x, 0, 0, "rl");
            due(0, x.words(1, 3, -1));
            due(0, x.words(1, 3, 0));
            due(1, x.words(1, 3, 1));
            due(-1, x.judge(0, 1, 3));
            due(1, x.piece(0, 1, 3, 1));
        });
        test("the first one (by LEVELS, 0 ahead of 1)", x -> {
            put(x, 1, 0, 2, 1, 2, 2, 2, 2, 2, 1);
            due(2, x.words(1, 8, -1));
            due(new long[] {0, 1, 0, 1}, i -> x.words(1, 8, i));
        });
        test("letters told by the farthest CREASES alone", x -> {
            x.row(1, 0, 63);
            for (int i = 0; i < 63; i++) {
                x.set(1, i, 2);
            }
            x.set(1, 62, 0);
            x.set(1, 31, 1);
            due(4, x.words(1, 63, -1));
            due(new long[] {1, 0, 0, 0, 0, 1}, i -> x.words(1, 63, i));
            x.set(1, 60, 0);
            due(63, x.wrong(1, 63));
            due(-1, x.wrong(1, 62));
            due(1, x.mend(1, 63));
        });
        test("words(): NONE if no WORD fits", x -> {
            put(x, 1, 0, 1, 2, 1);
            due(1, x.words(1, 2, -1));
            due(-1, x.words(1, 3, -1));
            due(0, x.status(15));
            due(-15, x.words(1, 3, 0));
            due(-15, x.words(1, 3, 1));
        });
        test("WRONG: the first CREASE with which no WORD fits; NONE", x -> {
            put(x, 1, 0, 1, 1, 0, 1, 1, 0, 1);
            due(7, x.wrong(1, 7));
            due(-1, x.wrong(1, 6));
            x.set(1, 2, 1);
            due(3, x.wrong(1, 7));
            due(3, x.wrong(1, 3));
            due(-1, x.wrong(1, 2));
            due(-1, x.wrong(1, 1));
        });
        test("MEND: the fewest of those seen to be turned so that some WORD fits", x -> {
            put(x, 1, 0, 0, 0, 1, 0, 0, 1, 1);
            due(0, x.mend(1, 7));
            x.set(1, 0, 1);
            due(1, x.mend(1, 7));
            x.set(1, 2, 0);
            due(2, x.mend(1, 7));
            x.set(1, 4, 1);
            due(1, x.mend(1, 7));
            x.set(1, 6, 0);
            due(0, x.mend(1, 7));
            x.set(1, 5, 0);
            due(1, x.mend(1, 7));
            due(0, x.mend(1, 5));
        });
        test("judge(): CREASES 1 to n, no more than there are", x -> {
            make(x, 0, 0, "ll");
            make(x, 4, 2, "ll");
            put(x, 1, 0, 1, 1, 0, 1);
            due(-1, x.judge(0, 1, 3));
            due(-15, x.judge(0, 1, 4));
            due(-1, x.judge(1, 1, 1));
            due(-15, x.judge(1, 1, 2));
        });
        test("judge(): the first that isn't; NONE", x -> {
            make(x, 0, 0, "ll");
            put(x, 1, 0, 1, 1, 1);
            due(3, x.judge(0, 1, 3));
            due(-1, x.judge(0, 1, 2));
            x.set(1, 0, 0);
            due(1, x.judge(0, 1, 3));
            x.set(1, 0, 5);
            x.set(1, 2, 5);
            due(-1, x.judge(0, 1, 3));
        });
    }

    private static void ends() {
        test("ENDS: f 1 to 10", x -> {
            due(-6, x.ends(0, 1, 0, 0));
            due(1, x.ends(1, 1, 1, 0));
            due(1, x.ends(1, 1, -1, 0));
            due(0, x.ends(1, 2, 0, 0));
            due(256, x.ends(10, 0, 32, 0));
            due(-6, x.ends(11, 32, 32, 0));
        });
        test("ENDS: all WORDS end somewhere", x -> {
            for (int f = 1; f <= 10; f++) {
                int far = 1 << f / 2;
                int many = f % 2 == 0 ? x.ends(f, far, 0, 0) + x.ends(f, -far, 0, 0) + x.ends(f, 0, far, 0)
                        + x.ends(f, 0, -far, 0) : x.ends(f, far, far, 0) + x.ends(f, -far, far, 0)
                        + x.ends(f, far, -far, 0) + x.ends(f, -far, -far, 0);
                due(1 << f, many);
            }
        });
        test("ENDS: the first one as bits (LEVEL 0 lowest; first: the least such number)", x -> {
            due(0, x.ends(1, 1, -1, 1));
            due(1, x.ends(1, 1, 1, 1));
            due(1, x.ends(2, 2, 0, 1));
            due(0, x.ends(2, 0, -2, 1));
            due(3, x.ends(2, 0, 2, 1));
            due(3, x.ends(3, 2, 2, 1));
            due(0, x.ends(10, 0, -32, 1));
            due(1, x.ends(10, 32, 0, 1));
            due(3, x.ends(10, 0, 32, 1));
            due(7, x.ends(10, -32, 0, 1));
        });
        test("ENDS: none", x -> {
            due(0, x.ends(2, 1, 1, 0));
            due(-5, x.ends(2, 1, 1, 1));
            due(-5, x.ends(2, MIN, MAX, 1));
            due(-5, x.ends(1, 1, 0, 1));
        });
    }

    private static void pieces() {
        test("PIECE: n 1 to 40", x -> {
            make(x, 0, 0, FORTY);
            x.row(1, 0, 41);
            for (int i = 0; i < 41; i++) {
                x.set(1, i, 7);
            }
            due(-6, x.piece(0, 1, 0, 0));
            due(4000, x.piece(0, 1, 1, 0));
            due(3961, x.piece(0, 1, 40, 0));
            due(-6, x.piece(0, 1, 41, 0));
            due(-4, x.piece(0, 1, -1, 0));
        });
        test("PIECE: CREASES 1 to 4000", x -> {
            make(x, 0, 0, some('r', 40));
            put(x, 1, 0, 0);
            put(x, 2, 0, 1);
            int ones = 0;
            for (int n = 1; n <= 4000; n++) {
                int m = n / Integer.lowestOneBit(n);
                ones += m % 4 == 3 ? 1 : 0;
            }
            due(4000 - ones, x.piece(0, 1, 1, 0));
            due(ones, x.piece(0, 2, 1, 0));
            due(0, x.crease(0, 4000) + x.crease(0, 4001));
            make(x, 5, 0, some('r', 40));
            put(x, 1, 0, 0);
            due(ones, x.piece(1, 1, 1, 0));
            due(4000 - ones, x.piece(1, 2, 1, 0));
        });
        for (int size : new int[] {2, 5, 40}) {
            test("PIECE: it ends at CREASE 4000, or one too far: n " + size, x -> {
                make(x, 0, 0, FORTY);
                for (int end = 4000; end <= 4001; end++) {
                    int[] piece = new int[size];
                    x.row(1, 0, size);
                    for (int i = 0; i < size; i++) {
                        piece[i] = creaseOf(FORTY, end - size + 1 + i);
                        x.set(1, i, piece[i]);
                    }
                    due(standsIn4000(FORTY, piece), x.piece(0, 1, size, 0));
                }
            });
        }
        test("PIECE: no more CREASES than there are", x -> {
            make(x, 0, 0, "lr");
            put(x, 1, 0, 9, 9, 9, 9);
            due(3, x.piece(0, 1, 1, 0));
            due(1, x.piece(0, 1, 3, 0));
            due(1, x.piece(0, 1, 3, 1));
            due(0, x.piece(0, 1, 4, 0));
            due(-5, x.piece(0, 1, 4, 1));
        });
        test("PIECE: those not seen stand for either, at both ends", x -> {
            make(x, 0, 0, "lrl");
            put(x, 1, 1, 2, 1, 2);
            due(3, x.piece(0, 1, 3, 0));
            due(3, x.piece(0, 1, 3, 1));
            put(x, 1, 1, 0, 0);
            due(1, x.piece(0, 1, 2, 0));
            due(2, x.piece(0, 1, 2, 1));
        });
        test("PIECE: pieces that lie over one another count each", x -> {
            make(x, 0, 0, "lrl");
            put(x, 1, 1, 1, 1);
            due(2, x.piece(0, 1, 2, 0));
            due(4, x.piece(0, 1, 2, 1));
        });
        test("PIECE: nowhere (not for 0)", x -> {
            make(x, 0, 0, "lrl");
            put(x, 1, 1, 1, 1, 1, 1);
            due(0, x.piece(0, 1, 4, 0));
            due(-5, x.piece(0, 1, 4, 1));
            due(1, x.status(15));
        });
    }

    private static int creaseOf(String word, int n) {
        int low = Integer.lowestOneBit(n);
        int letter = word.charAt(Integer.numberOfTrailingZeros(low)) == 'l' ? 1 : 0;
        return n / low % 4 == 1 ? letter : 1 - letter;
    }

    private static int standsIn4000(String word, int[] piece) {
        int many = 0;
        for (int from = 1; from + piece.length - 1 <= 4000; from++) {
            int i = 0;
            while (i < piece.length && creaseOf(word, from + i) == piece[i]) {
                i++;
            }
            many += i == piece.length ? 1 : 0;
        }
        return many;
    }

    private static void leaves() {
        test("LEAVES: n of them (1 to 8)", x -> {
            put(x, 0, 0, 0, 1, 2, 3, 4, 5, 6, 7, 8);
            due(-6, x.can(0, 0));
            due(1, x.can(0, 1));
            due(1, x.can(0, 8));
            due(-6, x.can(0, 9));
            due(-6, x.orders(0));
            due(1, x.orders(1));
            due(1392, x.orders(8));
            due(-6, x.orders(9));
            due(-6, x.order(0, 0, 0));
            due(0, x.order(1, 0, 0));
            due(7, x.order(8, 1391, 0));
            due(-6, x.order(9, 0, 0));
        });
        test("the ORDER in SHELF s: elements 0 to n less 1, each once", x -> {
            put(x, 0, 1, 1, 0, 0, -1, 4);
            due(1, x.can(0, 2));
            due(-6, x.can(0, 1));
            due(-6, x.can(0, 3));
            put(x, 0, 1, 0, -1, 2);
            due(-6, x.can(0, 2));
            due(-6, x.can(0, 3));
            put(x, 0, 1, 0, 3, 1);
            due(-6, x.can(0, 3));
            put(x, 0, 1, 0, 33, 2);
            due(-6, x.can(0, 3));
            put(x, 0, 1, 0, -31, 2);
            due(-6, x.can(0, 3));
            put(x, 0, 3, 1L << 32, (1L << 40) + 1);
            due(1, x.can(0, 2));
        });
        test("CAN: no two of which one has just one end between the ends of the other (i even)", x -> {
            put(x, 0, 0, 0, 2, 1, 3);
            due(0, x.can(0, 4));
            put(x, 0, 0, 0, 1, 2, 3);
            due(1, x.can(0, 4));
            put(x, 0, 0, 0, 2, 3, 1);
            due(1, x.can(0, 4));
            put(x, 0, 0, 2, 0, 3, 1);
            due(0, x.can(0, 4));
        });
        test("CAN: and so for i odd", x -> {
            put(x, 0, 0, 1, 3, 2, 4, 0);
            due(0, x.can(0, 5));
            put(x, 0, 0, 0, 4, 2, 3, 1);
            due(0, x.can(0, 5));
            put(x, 0, 0, 0, 1, 2, 4, 3);
            due(1, x.can(0, 5));
        });
        test("CAN: what was asked ahead does not matter", x -> {
            int[][] orders = {{0, 1, 2, 3}, {0, 2, 1, 3}, {3, 2, 1, 0}, {2, 3, 0, 1}, {1, 3, 0, 2}, {2, 1, 0, 3}};
            int[] can = {1, 0, 1, 1, 0, 1};
            x.row(0, 0, 4);
            for (int first = 0; first < 6; first++) {
                for (int then = 0; then < 6; then++) {
                    due(can[first], canBe(x, orders[first]));
                    due(can[then], canBe(x, orders[then]));
                }
            }
        });
        test("CAN: of five leaves, what was asked ahead does not matter either", x -> {
            int[][] orders = {{0, 1, 2, 3, 4}, {4, 0, 3, 2, 1}, {2, 4, 3, 0, 1}};
            x.row(0, 0, 5);
            for (int[] first : orders) {
                for (int[] then : orders) {
                    due(1, canBe(x, first));
                    due(1, canBe(x, then));
                }
            }
        });
        test("CAN: folds of unlike sides may cross", x -> {
            put(x, 0, 0, 0, 2, 1);
            due(1, x.can(0, 3));
            put(x, 0, 0, 1, 0, 2);
            due(1, x.can(0, 3));
        });
        test("ORDERS: the first and the last of them by rows", x -> {
            int[] many = {1, 2, 6, 16, 50, 144, 462, 1392};
            for (int n = 1; n <= 8; n++) {
                due(many[n - 1], x.orders(n));
                for (int place = 0; place < n; place++) {
                    due(place, x.order(n, 0, place));
                    due(n - 1 - place, x.order(n, many[n - 1] - 1, place));
                }
                due(-5, x.order(n, many[n - 1], 0));
                due(-5, x.order(n, -1, 0));
                due(-5, x.order(n, 0, n));
                due(-5, x.order(n, 0, -1));
            }
        });
        test("ORDERS: rows rise", x -> {
            for (int i = 1; i < 50; i++) {
                int place = 0;
                while (place < 4 && x.order(5, i, place) == x.order(5, i - 1, place)) {
                    place++;
                }
                due(1, x.order(5, i, place) > x.order(5, i - 1, place) ? 1 : 0);
            }
        });
    }

    private static int canBe(FoldedInHalf x, int[] order) {
        for (int i = 0; i < order.length; i++) {
            x.set(0, i, order[i]);
        }
        return x.can(0, order.length);
    }

    private static void pages() {
        test("PAGES: f 1 to 6", x -> {
            due(-6, x.page(0, 0));
            due(1, x.page(1, 0));
            due(0, x.page(1, 1));
            due(0, x.page(6, 63));
            due(-6, x.page(7, 0));
            due(-6, x.page(-1, 0));
        });
        test("PAGES: leaves 0 to 2 to the power of f less 1", x -> {
            for (int f = 1; f <= 6; f++) {
                long seen = 0;
                for (int place = 0; place < 1 << f; place++) {
                    seen |= 1L << x.page(f, place);
                }
                due(f == 6 ? -1L : (1L << (1 << f)) - 1, seen);
                due(-5, x.page(f, 1 << f));
                due(-5, x.page(f, -1));
            }
        });
        test("PAGES: the right half turned over onto the left each time", x -> {
            due(new long[] {1, 0}, i -> x.page(1, i));
            due(new long[] {1, 2, 3, 0}, i -> x.page(2, i));
            due(new long[] {1, 6, 5, 2, 3, 4, 7, 0}, i -> x.page(3, i));
        });
    }

    private static void shelves() {
        test("SHELVES 0 to 7 hold NOTHING (at first)", x -> {
            for (int s = 0; s <= 7; s++) {
                due(-1, x.holds(s));
                due(-3, x.set(s, 0, 0));
                due(1, x.row(s, 0, 1));
                due(100, x.holds(s));
            }
            due(-1, x.row(8, 0, 1));
            due(-1, x.row(-1, 0, 1));
            due(-1, x.holds(8));
            due(-1, x.holds(-1));
        });
        test("A SHELF holds a STRIP by its number, as it is then", x -> {
            make(x, 0, 0, "lr");
            make(x, 5, 0, "lr");
            due(1, x.show(0, 0));
            due(1, x.show(7, 1));
            due(0, x.holds(0));
            due(1, x.holds(7));
            due(0, x.says(7, 5));
            x.turn(1, 0);
            due(1, x.says(7, 5));
            read(x, "less 0;less 1");
            due(1, x.says(0, 0));
        });
        test("show(): STRIP, or NOTHING (strip NONE): 1, 0", x -> {
            make(x, 0, 0, "lr");
            due(0, x.show(3, -1));
            due(1, x.show(3, 0));
            due(0, x.show(3, -1));
            due(-1, x.holds(3));
            put(x, 3, 2, 4, 5);
            due(5, x.element(3, 1));
            due(0, x.show(3, -1));
            due(-1, x.holds(3));
            due(0, x.element(3, 1));
            put(x, 3, 2, 4, 5);
            due(1, x.show(3, 0));
            due(0, x.element(3, 1));
            due(-2, x.set(3, 1, 5));
            due(-1, x.show(3, 1));
            due(-1, x.show(3, -2));
            due(-1, x.show(8, -1));
            due(-1, x.show(-1, -1));
        });
        test("drop(): SHELVES that hold it hold NOTHING", x -> {
            for (int i = 0; i < 8; i++) {
                make(x, 0, 0, "l");
            }
            for (int s = 0; s < 8; s++) {
                x.show(s, s < 4 ? 7 : s);
            }
            due(7, x.drop());
            due(new long[] {-1, -1, -1, -1, 4, 5, 6, -1}, x::holds);
            due(6, x.drop());
            due(new long[] {-1, -1, -1, -1, 4, 5, -1, -1}, x::holds);
            x.row(0, 3, 1);
            due(5, x.drop());
            due(103, x.holds(0));
        });
        test("drop(): the last STRIP goes, down to none", x -> {
            due(-6, x.drop());
            make(x, 0, 0, "l");
            make(x, 0, 0, "lr");
            due(1, x.drop());
            due(1, x.stripOf(0, 2));
            due(-1, x.creases(1));
            due(0, x.drop());
            due(-1, x.creases(0));
            due(-6, x.drop());
            due(0, x.status(0));
        });
    }

    private static void rows() {
        test("A ROW has 0 to 160 elements", x -> {
            due(1, x.row(0, 0, 0));
            due(100, x.holds(0));
            due(-5, x.set(0, 0, 1));
            due(0, x.element(0, 0));
            due(1, x.row(0, 3, 160));
            due(1, x.set(0, 0, 5));
            due(1, x.set(0, 159, 6));
            due(-5, x.set(0, 160, 7));
            due(-5, x.set(0, -1, 7));
            due(5, x.element(0, 0));
            due(6, x.element(0, 159));
            due(0, x.element(0, 160));
            due(0, x.element(0, -1));
            due(-7, x.row(0, 0, 161));
            due(6, x.element(0, 159));
            due(-4, x.row(0, 0, -1));
        });
        test("a SORT (0 bytes, 1 shorts, 2 ints, 3 longs)", x -> {
            for (int sort = 0; sort <= 3; sort++) {
                due(1, x.row(0, sort, 1));
                due(100 + sort, x.holds(0));
            }
            due(-6, x.row(0, 4, 1));
            due(-6, x.row(0, -1, 1));
            due(103, x.holds(0));
        });
        test("elements, 0 at first, where others stood before too", x -> {
            put(x, 0, 3, 1, 2, 3);
            x.row(0, 3, 3);
            due(new long[] {0, 0, 0, 0}, i -> x.element(0, i));
            put(x, 0, 3, 1, 2, 3);
            x.row(0, 2, 1);
            x.row(0, 3, 3);
            due(new long[] {0, 0, 0}, i -> x.element(0, i));
            put(x, 0, 3, 1, 2, 3);
            x.show(0, -1);
            x.row(0, 3, 3);
            due(new long[] {0, 0, 0}, i -> x.element(0, i));
        });
        int[] bits = {8, 16, 32, 64};
        for (int s = 0; s <= 3; s++) {
            int sort = s;
            long top = 1L << (bits[sort] - 1);
            test("what is put in keeps its lowest bits: SORT " + sort, x -> {
                x.row(0, sort, 1);
                long[] values = {top - 1, top, -top, -top - 1, 2 * top, 2 * top + 1, -1, Long.MAX_VALUE, Long.MIN_VALUE};
                for (long value : values) {
                    due(1, x.set(0, 0, value));
                    long kept = value << (64 - bits[sort]) >> (64 - bits[sort]);
                    due(kept, x.element(0, 0));
                }
            });
        }
    }

    private static void copies() {
        test("copy(): to elements j, j + 1, .. (as they were ahead), on and back", x -> {
            put(x, 0, 2, 1, 2, 3, 4, 5);
            due(1, x.copy(0, 0, 0, 1, 4));
            due(new long[] {1, 1, 2, 3, 4}, i -> x.element(0, i));
            due(1, x.copy(0, 0, 1, 0, 4));
            due(new long[] {1, 2, 3, 4, 4}, i -> x.element(0, i));
        });
        test("copy(): n 0 and all", x -> {
            put(x, 0, 2, 1, 2, 3);
            x.row(1, 2, 3);
            due(1, x.copy(0, 1, 0, 0, 0));
            due(1, x.copy(0, 1, 3, 3, 0));
            due(0, x.element(1, 0));
            due(1, x.copy(0, 1, 0, 0, 3));
            due(new long[] {1, 2, 3}, i -> x.element(1, i));
            due(-4, x.copy(0, 1, 0, 0, -1));
            x.row(2, 2, 0);
            due(1, x.copy(0, 2, 3, 0, 0));
            due(1, x.copy(2, 2, 0, 0, 0));
            due(-5, x.copy(2, 0, 0, 0, 1));
        });
        test("copy(): an end that isn't there, of either", x -> {
            put(x, 0, 2, 1, 2, 3);
            x.row(1, 2, 2);
            due(1, x.copy(0, 1, 1, 0, 2));
            due(-5, x.copy(0, 1, 2, 0, 2));
            due(-5, x.copy(0, 1, 0, 0, 3));
            due(-5, x.copy(0, 1, 0, 1, 2));
            due(-5, x.copy(0, 1, 4, 0, 0));
            due(-5, x.copy(0, 1, 0, 3, 0));
            due(-5, x.copy(0, 1, -1, 0, 1));
            due(-5, x.copy(0, 1, 0, -1, 1));
            due(-5, x.copy(0, 1, MAX, 0, MAX));
            due(2, x.element(1, 0));
            due(3, x.element(1, 1));
        });
        test("copy(): -2 also of two SORTS, when both hold something", x -> {
            x.row(0, 2, 3);
            x.row(1, 3, 3);
            due(-2, x.copy(0, 1, 0, 0, 1));
            due(-2, x.copy(0, 1, 9, 9, -1));
            due(-3, x.copy(0, 2, 0, 0, 1));
            due(-3, x.copy(2, 1, 0, 0, 1));
        });
    }

    private static void sayings() {
        test("says(): STRIP its FOLDS, of all KINDS", x -> {
            for (int kind = 0; kind <= 6; kind++) {
                make(x, kind, 3, kind == 2 ? TWENTY_FIVE : FORTY);
                x.show(1, kind);
                due(kind == 2 ? 25 : 40, x.says(1, 0));
            }
        });
        test("says(): SAME its letter", x -> {
            make(x, 1, 0, "l");
            make(x, 1, 999999, "r");
            x.show(1, 0);
            due(0, x.says(1, 1));
            x.show(1, 1);
            due(1, x.says(1, 1));
        });
        test("says(): THIRD its CREASES modulo 1000", x -> {
            make(x, 2, 0, "l");
            make(x, 2, 0, "lllllll");
            make(x, 2, 0, TWENTY_FIVE);
            long[] due = {2, 186, 442};
            for (int strip = 0; strip < 3; strip++) {
                x.show(1, strip);
                due(due[strip], x.says(1, 2));
            }
        });
        test("says(): CUT, BACK b modulo 1000", x -> {
            make(x, 3, 999, "lllllllllll");
            make(x, 3, 1000, "lllllllllll");
            make(x, 4, 2046, "lllllllllll");
            make(x, 4, 2047, "lllllllllll");
            make(x, 3, 999999, FORTY);
            make(x, 3, 999999, "l");
            long[] due = {999, 0, 46, 0, 999, 0};
            for (int strip = 0; strip < due.length; strip++) {
                x.show(1, strip);
                due(due[strip], x.says(1, 3));
                due(strip == 2 || strip == 3 ? due[strip] : -2, x.says(1, 4));
            }
        });
        test("says(): GLASS, LEFT its CREASE 1", x -> {
            make(x, 5, 0, "l");
            make(x, 5, 0, "rl");
            make(x, 6, 0, "l");
            make(x, 6, 0, "rl");
            long[] due = {0, 1, 0, 1};
            for (int strip = 0; strip < 4; strip++) {
                x.show(1, strip);
                due(due[strip], x.says(1, 5));
                due(strip < 2 ? -2 : due[strip], x.says(1, 6));
            }
        });
    }

    private static void acts() {
        test("ACTS, with x (wrapping)", x -> {
            for (int kind = 0; kind <= 6; kind++) {
                make(x, kind, 999999, "lr");
            }
            due(MIN + 2, x.act(3, 0, MAX) + 0);
            due(-2, x.act(0, 1, MAX));
            due(0, x.act(0, 1, MIN));
            due(MIN + 999999, x.act(1, 0, MAX));
            due((MAX + 2) * 2 * 3, x.act(2, 1, MAX));
            due((MIN + 3) * 2, x.act(3, 1, MAX));
            due(MAX, x.act(4, 0, MAX));
            due((MAX + 6) * 2, x.act(6, 0, MAX));
            due(((MIN - 999999 + 6) * 2) * 2, x.act(6, 1, MIN));
            due(MIN * 2 ^ MIN - 999999, x.act(0, 2, MIN));
        });
        int[] extremes = {MIN, MIN + 1, -999999, -1, 0, 1, 5, 999999, MAX - 1, MAX};
        for (int kind = 0; kind <= 6; kind++) {
            int body = kind;
            test("BODIES, each with its number, at the least and greatest x: KIND " + kind, x -> {
                make(x, 0, 0, "l");
                make(x, body, 999999, "lr");
                for (int with : extremes) {
                    for (int act = 0; act <= 2; act++) {
                        ran = "";
                        due(acted(body, act, with), x.act(1, act, with));
                        due(ran.length() / 3, x.status(3));
                        String seen = "";
                        for (int i = 0; x.trace(i) != -1; i++) {
                            seen += x.trace(i) + " ";
                        }
                        due(1, seen.equals(ran) ? 1 : 0);
                    }
                }
            });
        }
        test("act(): 0, and no TRACE then: no such STRIP, act", x -> {
            make(x, 0, 0, "l");
            int[][] none = {{1, 0}, {-1, 0}, {8, 0}, {MAX, 0}, {0, 3}, {0, -1}, {0, MIN}};
            for (int[] call : none) {
                due(7, x.act(0, 0, 7));
                due(1, x.status(3));
                due(0, x.act(call[0], call[1], 7));
                due(0, x.status(3));
                due(-1, x.trace(0));
            }
        });
        test("THE TRACE: the bodies that ran in the latest act(), in the order in which they began", x -> {
            make(x, 4, 1, "lr");
            make(x, 0, 1, "lr");
            due(-1, x.trace(0));
            x.act(0, 2, 1);
            due(new long[] {50, 12, 40, 11, 51, 10, 51, 10, -1}, x::trace);
            due(8, x.status(3));
            x.act(1, 0, 1);
            due(new long[] {10, -1}, x::trace);
            due(1, x.status(3));
        });
        test("trace(): NONE: none such", x -> {
            make(x, 4, 1, "lr");
            x.act(0, 2, 1);
            for (int i : new int[] {8, 19, 20, 21, MAX, -1, MIN}) {
                due(-1, x.trace(i));
            }
        });
        test("THE TRACE stays when STRIPS go", x -> {
            make(x, 4, 1, "lr");
            x.image();
            x.act(0, 0, 1);
            x.drop();
            due(51, x.trace(0));
            x.restore();
            due(51, x.trace(0));
            due(2, x.status(3));
        });
        test("m the number: of a STRIP made where another one was", x -> {
            make(x, 0, 0, "l");
            make(x, 0, 0, "l");
            x.drop();
            make(x, 0, 0, "l");
            due(6, x.act(1, 0, 5));
            due(5, x.act(0, 0, 5));
        });
    }

    // The bodies as the document writes them, of a strip with m 1 and k 999999; what runs is written down.

    private static String ran = "";

    private static void begin(int body) {
        ran += body + " ";
    }

    private static int acted(int kind, int act, int x) {
        if (act == 0) {
            return folds(kind, x);
        }
        return act == 1 ? opens(kind, x) : lies(kind, x);
    }

    private static int folds(int kind, int x) {
        int m = 1;
        int k = 999999;
        switch (kind) {
            case 1:
                begin(20);
                return folds(0, x) + k;
            case 4:
                begin(51);
                return folds(3, x) - m;
            case 6:
                begin(70);
                return folds(5, x) * 2;
            default:
                begin(10);
                return x + m;
        }
    }

    private static int opens(int kind, int x) {
        switch (kind) {
            case 2:
                begin(30);
                return plainOpens(kind, x) * 3;
            case 3:
            case 4:
                begin(40);
                return plainOpens(kind, x + 1);
            case 6:
                begin(71);
                return plainOpens(kind, x - 999999);
            default:
                return plainOpens(kind, x);
        }
    }

    private static int plainOpens(int kind, int x) {
        begin(11);
        return folds(kind, x) * 2;
    }

    private static int lies(int kind, int x) {
        switch (kind) {
            case 4:
                begin(50);
                return -plainLies(kind, x);
            case 5:
            case 6:
                begin(60);
                return plainLies(kind, x) ^ 5;
            default:
                return plainLies(kind, x);
        }
    }

    private static int plainLies(int kind, int x) {
        begin(12);
        int opened = opens(kind, x);
        return opened ^ folds(kind, x - 999999);
    }

    private static void images() {
        test("restore(): -6 there is none", x -> {
            make(x, 0, 0, "l");
            due(-6, x.restore());
            due(1, x.status(0));
            due(1, x.status(16));
        });
        test("image(): of no STRIPS", x -> {
            due(0, x.image());
            due(0, x.restore());
            make(x, 0, 0, "l");
            x.show(1, 0);
            due(0, x.restore());
            due(0, x.status(0));
            due(-1, x.holds(1));
            due(100, x.holds(0));
        });
        test("image(): of all eight", x -> {
            for (int i = 0; i < 8; i++) {
                make(x, i % 7, 100 + i, "lrl");
            }
            due(8, x.image());
            while (x.status(0) > 0) {
                x.drop();
            }
            due(8, x.restore());
            for (int i = 0; i < 8; i++) {
                due(i % 7, x.stripOf(i, 0));
                due(100 + i, x.stripOf(i, 1));
                due(3, x.stripOf(i, 2));
            }
            due(-7, make(x, 0, 0, "l"));
        });
        test("THE IMAGE of all but SHELVES", x -> {
            put(x, 1, 3, 5);
            x.image();
            x.set(1, 0, 6);
            x.row(2, 0, 1);
            x.restore();
            due(6, x.element(1, 0));
            due(100, x.holds(2));
        });
        test("THE IMAGE of all but THE IMAGE: it stays when it was restored", x -> {
            make(x, 0, 0, "l");
            x.image();
            for (int i = 0; i < 3; i++) {
                x.turn(0, 0);
                due(0, x.stripOf(0, 10));
                due(1, x.restore());
                due(1, x.stripOf(0, 10));
            }
        });
        test("THE IMAGE is the latest one", x -> {
            make(x, 0, 0, "l");
            x.image();
            x.turn(0, 0);
            x.image();
            x.turn(0, 0);
            x.restore();
            due(0, x.stripOf(0, 10));
        });
        test("THE IMAGE of all but REFUSALS, the FAULT", x -> {
            x.image();
            fails(2, x, "stx");
            x.turn(0, 0);
            due(0, x.restore());
            due(2, x.fault());
            due(1, x.status(16));
            due(1, x.status(11));
        });
        test("restore(): SHELVES with STRIPS hold those of these numbers, or NOTHING", x -> {
            make(x, 0, 0, "l");
            make(x, 0, 0, "ll");
            x.image();
            x.drop();
            make(x, 5, 0, "lll");
            make(x, 5, 0, "llll");
            x.show(1, 0);
            x.show(2, 1);
            x.show(3, 2);
            due(2, x.restore());
            due(0, x.holds(1));
            due(1, x.holds(2));
            due(-1, x.holds(3));
            due(2, x.says(2, 0));
            due(-2, x.says(2, 5));
            due(-1, x.creases(2));
        });
        test("restore(): what read() and turn() did is undone", x -> {
            make(x, 0, 0, "lll");
            x.image();
            x.turn(0, 2);
            read(x, "less 0;less 0;strip 0 0 l");
            due(1, x.restore());
            due(3, x.status(2));
            due(7, x.creases(0));
        });
    }

    private static void status() {
        test("status(): of a new object", x -> {
            for (int what = 0; what <= 3; what++) {
                due(0, x.status(what));
            }
            for (int what = 11; what <= 17; what++) {
                due(0, x.status(what));
            }
        });
        test("status(): NONE for another what", x -> {
            for (int what : new int[] {-1, 4, 5, 9, 10, 18, MIN, MAX}) {
                due(-1, x.status(what));
            }
        });
        test("status(): FOLDS of all, letters that are 1 (of all WORDS)", x -> {
            for (int i = 0; i < 8; i++) {
                make(x, i == 2 ? 0 : i % 7, 0, some('l', 40));
            }
            due(320, x.status(1));
            due(320, x.status(2));
            x.turn(7, 39);
            due(319, x.status(2));
            x.drop();
            due(280, x.status(1));
            due(280, x.status(2));
        });
        test("status(): letters of a SAME are those of its WORD", x -> {
            make(x, 1, 0, "lll");
            make(x, 1, 1, "rrr");
            due(3, x.status(2));
        });
        for (int i = 1; i <= 7; i++) {
            int which = i;
            test("11 to 17: REFUSALS -1 to -7: -" + i, x -> {
                make(x, 0, 0, "l");
                x.show(1, 0);
                for (int times = 1; times <= 3; times++) {
                    due(-which, refusal(x, which));
                    for (int why = 1; why <= 7; why++) {
                        due(why == which ? times : 0, x.status(10 + why));
                    }
                }
            });
        }
        test("(counted as -1 to -6): of calls that answer -11 to -16", x -> {
            x.row(0, 0, 64);
            make(x, 0, 0, "l");
            x.row(0, 0, 64);
            x.show(1, 0);
            due(-11, x.wrong(8, 0));
            due(-12, x.wrong(1, 0));
            due(-13, x.wrong(2, 0));
            due(-14, x.wrong(0, -1));
            due(-15, x.wrong(0, 65));
            due(-16, x.wrong(0, 64));
            due(new long[] {1, 1, 1, 1, 1, 1, 0}, i -> x.status(11 + i));
        });
    }

    private static int refusal(FoldedInHalf x, int which) {
        switch (which) {
            case 1:
                return x.row(8, 0, 0);
            case 2:
                return x.set(1, 0, 0);
            case 3:
                return x.set(2, 0, 0);
            case 4:
                return x.row(2, 0, -1);
            case 5:
                return x.turn(0, 1);
            case 6:
                return x.row(2, 4, 0);
            default:
                return x.row(2, 0, 161);
        }
    }

    private static void calls() {
        test("An object is used for at most 512 calls", x -> {
            make(x, 0, 0, FORTY);
            for (int call = x.status(0) + 42; call <= 512; call++) {
                due(0, x.crease(0, 1099511627775L));
            }
        });
        test("two objects do not know of one another", x -> {
            FoldedInHalf y = new FoldedInHalf();
            make(x, 0, 0, "lr");
            x.image();
            x.act(0, 0, 1);
            fails(0, x, "");
            due(0, y.status(0));
            due(-6, y.restore());
            due(-1, y.holds(0));
            due(-1, y.trace(0));
            due(-1, y.fault());
            due(1, y.status(16));
            due(1, x.status(16));
        });
    }
}
