import java.lang.reflect.InvocationTargetException;
import java.lang.reflect.Method;
import java.util.ArrayList;
import java.util.Arrays;
import java.util.Comparator;
import java.util.List;
import java.util.Random;

/**
 * Any calls with any arguments: nothing is thrown, a refused call changes nothing but one count of refusals, and the
 * same calls give the same answers.
 */
public final class FuzzTests {
    private static final int[] SMALL = {0, 0, 0, 1, 1, 2, 3, 4, 5, 6, 7, 8};
    private static final int[] ODD = {-1, -2, 9, 10, 11, 12, 13, 16, 17, 25, 26, 30, 31, 40, 41, 50, 63, 64, 100, 101, 159,
        160, 161, 1000, 1001, 4000, 4001, 100000, 999999, 1000000, Integer.MIN_VALUE, Integer.MAX_VALUE,
        Integer.MAX_VALUE - 1, Integer.MIN_VALUE + 1};
    private static final long[] FAR = {100000L, 100001L, (1L << 31) + 1, 1L << 32, 1L << 40, (1L << 40) + 1,
        847288609443L, 847288609444L, Long.MIN_VALUE, Long.MAX_VALUE, -1L};
    private static final String[] TEXTS = {"strip 0 0 lrlr", "strip 2 9 llr", "turn 0 1", "less 0", "turn 1 0", "less 1",
        "strip 3 77 lrlrlrlrlrlrlrlrl", "strip 4 5 rrrrrrrr", "strip 6 1 rl", "strip 1 1 lllllllllllllll", "strip 9 9 l",
        "strip 5 3 llllllllllllllll", "x", "strip 0 0 lllllllllllllllllllllllllllllllllllllllll"};
    private static int wrong = 0;

    public static void main(String[] args) throws IllegalAccessException {
        List<Method> calls = new ArrayList<>();
        for (Method method : FoldedInHalf.class.getDeclaredMethods()) {
            if (java.lang.reflect.Modifier.isPublic(method.getModifiers())) {
                calls.add(method);
            }
        }
        calls.sort(Comparator.comparing(Method::getName));
        for (int seed = 0; seed < 150 && wrong < 20; seed++) {
            run(calls, seed);
        }
        System.out.println(wrong == 0 ? "all answers are as due" : wrong + " answers are not as due");
        if (wrong != 0) {
            System.exit(1);
        }
    }

    private static void run(List<Method> calls, int seed) throws IllegalAccessException {
        Random dice = new Random(seed);
        FoldedInHalf x = new FoldedInHalf();
        FoldedInHalf twin = new FoldedInHalf();
        for (int i = 0; i < 512; i++) {
            if (dice.nextInt(12) == 0) {
                text(x, twin, dice);
            }
            Method method = calls.get(dice.nextInt(calls.size()));
            Object[] with = arguments(method, dice);
            String call = "seed " + seed + ": " + method.getName() + Arrays.toString(with);
            long[] before = state(x);
            int[] refusals = refusals(x);
            try {
                long answer = ((Number) method.invoke(x, with)).longValue();
                if (answer != ((Number) method.invoke(twin, with)).longValue()) {
                    tell(call + ": unlike answers of the same calls");
                }
                judge(call, answer, before, state(x), refusals, refusals(x));
            } catch (InvocationTargetException thrown) {
                tell(call + " threw " + thrown.getCause());
            }
        }
    }

    private static void tell(String what) {
        wrong++;
        System.out.println(what);
    }

    private static void judge(String call, long answer, long[] before, long[] after, int[] then, int[] now) {
        int more = 0;
        int which = 0;
        for (int i = 0; i < 7; i++) {
            more += now[i] - then[i];
            which = now[i] != then[i] ? i + 1 : which;
        }
        if (more == 0) {
            return;
        }
        if (more != 1 || answer != -which && answer != -10 - which && answer != -2000000000000000L - which) {
            tell(call + " answered " + answer + ", counted as " + which + ", " + more + " more");
        }
        boolean faultMayChange = call.contains(": read[");
        for (int i = faultMayChange ? 1 : 0; i < before.length; i++) {
            if (before[i] != after[i]) {
                tell(call + " was refused, but changed something (" + i + ")");
                return;
            }
        }
    }

    private static int[] refusals(FoldedInHalf x) {
        int[] many = new int[7];
        for (int i = 0; i < 7; i++) {
            many[i] = x.status(11 + i);
        }
        return many;
    }

    private static long[] state(FoldedInHalf x) {
        List<Long> all = new ArrayList<>();
        all.add((long) x.fault());
        for (int what = 0; what <= 3; what++) {
            all.add((long) x.status(what));
        }
        for (int i = 0; i < 20; i++) {
            all.add((long) x.trace(i));
        }
        for (int s = 0; s < 8; s++) {
            all.add((long) x.holds(s));
            for (int i = 0; i < 160; i++) {
                all.add(x.element(s, i));
            }
        }
        for (int strip = 0; strip < x.status(0); strip++) {
            for (int what = 0; what < 3; what++) {
                all.add((long) x.stripOf(strip, what));
            }
            for (int level = 0; level < x.stripOf(strip, 2); level++) {
                all.add((long) x.stripOf(strip, 10 + level));
            }
            all.add(x.creases(strip));
        }
        return all.stream().mapToLong(Long::longValue).toArray();
    }

    private static Object[] arguments(Method method, Random dice) {
        Class<?>[] types = method.getParameterTypes();
        Object[] with = new Object[types.length];
        for (int i = 0; i < types.length; i++) {
            int small = dice.nextInt(4) > 0 ? SMALL[dice.nextInt(SMALL.length)] : ODD[dice.nextInt(ODD.length)];
            if (types[i] == int.class) {
                with[i] = small;
            } else {
                with[i] = dice.nextInt(3) == 0 ? FAR[dice.nextInt(FAR.length)] : (long) small;
            }
        }
        return with;
    }

    /** Both read a text, whole or with an element spoilt; what it tells may stand or not. */
    private static void text(FoldedInHalf x, FoldedInHalf twin, Random dice) {
        StringBuilder text = new StringBuilder();
        for (int items = 1 + dice.nextInt(4); items > 0; items--) {
            text.append(TEXTS[dice.nextInt(TEXTS.length)]).append(items > 1 ? ";" : "");
        }
        if (dice.nextInt(3) == 0) {
            text.setCharAt(dice.nextInt(text.length()), "lr 019;sx".charAt(dice.nextInt(9)));
        }
        int n = Math.min(160, text.length());
        for (FoldedInHalf one : new FoldedInHalf[] {x, twin}) {
            one.row(6, 0, n);
            for (int i = 0; i < n; i++) {
                one.set(6, i, text.charAt(i));
            }
            one.read(6);
        }
    }
}
