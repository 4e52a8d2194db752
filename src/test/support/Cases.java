import java.lang.reflect.InvocationTargetException;
import java.lang.reflect.Method;
import java.lang.reflect.Modifier;
import java.util.ArrayList;
import java.util.Arrays;
import java.util.Comparator;
import java.util.List;
import java.util.function.Supplier;
import java.util.function.ToLongFunction;

/** What the boundary tests share. Each test is a static method, named after its promise; all of a class are run. */
final class Cases {
    static final long NO = Long.MIN_VALUE;
    static final int LOW = Integer.MIN_VALUE;
    static final int HIGH = Integer.MAX_VALUE;
    static final int ALL_24 = (1 << 24) - 1;

    private static String test = "";
    private static int wrong = 0;

    private Cases() {
    }

    static void run(Class<?> tests) throws IllegalAccessException {
        Method[] methods = tests.getDeclaredMethods();
        Arrays.sort(methods, Comparator.comparing(Method::getName));
        int ran = 0;
        for (Method m : methods) {
            if (!isTest(m)) {
                continue;
            }
            test = m.getName();
            ran++;
            try {
                m.invoke(null);
            } catch (InvocationTargetException e) {
                wrong++;
                System.out.println(test + ": threw " + e.getCause());
            }
        }
        System.out.println(ran + " tests: " + (wrong == 0 ? "all answers are as due" : wrong + " answers are not as due"));
        if (wrong != 0 || ran == 0) {
            System.exit(1);
        }
    }

    private static boolean isTest(Method m) {
        return Modifier.isStatic(m.getModifiers()) && !Modifier.isPrivate(m.getModifiers())
            && m.getParameterCount() == 0 && !m.isSynthetic();
    }

    static void due(String call, long got, long want) {
        if (got != want) {
            wrong++;
            System.out.println(test + ": " + call + " answered " + got + ", due is " + want);
        }
    }

    /** The rows of answers of one call, for one argument going through 0, 1, 2, .. */
    static void dueAll(String call, ToLongFunction<Integer> answer, long... wants) {
        for (int i = 0; i < wants.length; i++) {
            due(call + " at " + i, answer.applyAsLong(i), wants[i]);
        }
    }

    /** One call whose answer is the same for each of these arguments. */
    static void dueAt(String call, ToLongFunction<Integer> answer, long want, int... arguments) {
        for (int a : arguments) {
            due(call + " at " + a, answer.applyAsLong(a), want);
        }
    }

    /** Puts the text's bytes behind the tape, which is empty. */
    static void tape(RainbowHulls x, String text) {
        for (int i = 0; i < text.length(); i += 20) {
            int[] five = new int[5];
            for (int k = 0; k < 20; k++) {
                int sign = i + k < text.length() ? text.charAt(i + k) : 0;
                five[k / 4] = five[k / 4] << 8 | sign;
            }
            x.feed(five[0], five[1], five[2], five[3], five[4]);
        }
        x.end(text.length());
    }

    /** An object that has read a text without a fault. */
    static RainbowHulls of(String text) {
        RainbowHulls x = new RainbowHulls();
        tape(x, text);
        if (x.points() < 0) {
            wrong++;
            System.out.println(test + ": not read: " + text);
        }
        return x;
    }

    static String repeat(String first, String more, int times, String last) {
        StringBuilder text = new StringBuilder(first);
        for (int i = 0; i < times; i++) {
            text.append(more);
        }
        return text.append(last).toString();
    }

    /** So many points at one place, in one line without its end. */
    static String many(String colour, int points, String place) {
        return repeat(colour + " " + place, "," + place, points - 1, "");
    }

    /** All of the state that can be seen without changing it. */
    static String seen(RainbowHulls x) {
        List<Long> row = new ArrayList<>();
        for (int what = 0; what < 6; what++) {
            row.add((long) x.count(what));
        }
        for (int what = 0; what < 2; what++) {
            row.add((long) x.fault(what));
            row.add(x.centre(what));
        }
        for (int point = 0; point < x.count(0); point++) {
            for (int what = 0; what < 4; what++) {
                row.add(x.point(point, what));
            }
        }
        return row.toString();
    }

    /** The call has this answer, and an object behind it is like a twin without it, the bytes of its tape, too. */
    static void refused(String call, Supplier<RainbowHulls> made, ToLongFunction<RainbowHulls> answer, long want) {
        RainbowHulls x = made.get();
        RainbowHulls twin = made.get();
        due(call, answer.applyAsLong(x), want);
        same(call, seen(x), seen(twin));
        due("points() behind " + call, x.points(), twin.points());
        same("points() behind " + call, seen(x), seen(twin));
    }

    static void same(String call, String got, String want) {
        if (!got.equals(want)) {
            wrong++;
            System.out.println(test + ": behind " + call + " there is " + got + ", due is " + want);
        }
    }
}
