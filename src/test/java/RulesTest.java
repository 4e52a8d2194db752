import java.lang.management.ManagementFactory;
import java.lang.reflect.Constructor;
import java.lang.reflect.Field;
import java.lang.reflect.InvocationTargetException;
import java.lang.reflect.Method;
import java.lang.reflect.Modifier;
import java.util.ArrayList;
import java.util.Arrays;
import java.util.List;
import java.util.Random;
import java.util.Set;
import java.util.TreeSet;

/** The document's face and nothing else; no call throws, none makes objects. What the source must keep to: LanguageTest. */
public final class RulesTest {
    private static final String FACE = """
        int feed(int, int, int, int, int)
        int end(int)
        int points()
        int fault(int)
        int count(int)
        long point(int, int)
        long centre(int)
        int corners(int)
        int corner(int, int)
        int area(int)
        int places(int)
        int where(int, int, int)
        int holds(int)
        long nearest(int, int)
        long line(int, int)
        long tie(int, int)
        long radon(int, int)
        long balance(int)
        int steps()
        long weight(int, int, int)
        int left(int)
        int rainbows()
        int rainbow(int, int)
        long mixture(int, int, int, int)
        int exchanges(int, int, int, int)
        int exchanged(int, int, int, int, int)
        long distance(int, int, int, int, int)
        int starts(int)
        int meet(int, int)
        long meeting(int, int, int)
        long apart(int, int, int)
        int partings(int, int, int)
        int part(int, int, int, int)
        long met(int, int, int, int)
        int depth(int, int)
        int triangles(int, int, int)
        long deepest(int)
        int frees(int)
        int adds(int, int, int)
        int removes(int)
        int moves(int, int, int)
        int paints(int, int)
        int loads(int, int)
        int centres(int, int)
        """;

    private static int wrong = 0;

    private static void check(boolean fine, String what) {
        if (!fine) {
            wrong++;
            System.out.println("not so: " + what);
        }
    }

    private static Set<String> face() {
        return new TreeSet<>(Arrays.asList(FACE.trim().split("\\s*\n\\s*")));
    }

    private static String told(Method m) {
        List<String> types = new ArrayList<>();
        for (Class<?> type : m.getParameterTypes()) {
            types.add(type.getName());
        }
        return m.getReturnType().getName() + " " + m.getName() + "(" + String.join(", ", types) + ")";
    }

    private static void checkFace() {
        Class<?> c = RainbowHulls.class;
        check(Modifier.isPublic(c.getModifiers()) && Modifier.isFinal(c.getModifiers()), "public and final");
        Set<String> open = new TreeSet<>();
        Set<String> names = new TreeSet<>();
        for (Method m : c.getDeclaredMethods()) {
            if (!Modifier.isPrivate(m.getModifiers()) && !m.isSynthetic()) {
                check(Modifier.isPublic(m.getModifiers()) && !Modifier.isStatic(m.getModifiers()), "face: " + m);
                open.add(told(m));
                names.add(m.getName());
            }
        }
        check(open.equals(face()), "the face's methods: " + open);
        for (Field f : c.getDeclaredFields()) {
            boolean constant = f.getName().equals("NONE") || f.getName().equals("NO_SUCH");
            check(constant == Modifier.isPublic(f.getModifiers()), "public is the constant alone: " + f);
            check(constant || Modifier.isPrivate(f.getModifiers()), "private: " + f);
        }
        check(c.getDeclaredConstructors().length == 1, "one constructor");
        for (Constructor<?> k : c.getDeclaredConstructors()) {
            check(Modifier.isPublic(k.getModifiers()) && k.getParameterCount() == 0, "its constructor");
        }
        check(c.getDeclaredClasses().length <= 12, "twelve classes");
        checkInside(c, names);
        for (Class<?> inside : c.getDeclaredClasses()) {
            check(Modifier.isStatic(inside.getModifiers()) && !Modifier.isPublic(inside.getModifiers()), "" + inside);
            checkInside(inside, names);
        }
    }

    private static void checkInside(Class<?> c, Set<String> names) {
        int fields = 0;
        for (Field f : c.getDeclaredFields()) {
            if (Modifier.isStatic(f.getModifiers())) {
                check(Modifier.isFinal(f.getModifiers()), "a static field is final: " + f);
            } else {
                fields++;
            }
        }
        check(fields <= 20, "twenty fields: " + c);
        for (Method m : c.getDeclaredMethods()) {
            check(m.getParameterCount() <= 7, "seven parameters: " + m);
            check(c == RainbowHulls.class && Modifier.isPublic(m.getModifiers()) || !names.contains(m.getName()),
                "the name of a public one: " + m);
        }
    }

    private static int someNumber(Random random) {
        int[] strange = {Integer.MIN_VALUE, Integer.MAX_VALUE, -1, 0, 1, 2, 3, 20, 21, -20, -21, 23, 24, 1 << 23, 1 << 24,
            (1 << 24) - 1, (1 << 25) - 1, -(1 << 24), 0x72656420, 0x3120323b};
        int kind = random.nextInt(4);
        if (kind == 0) {
            return strange[random.nextInt(strange.length)];
        }
        return kind == 1 ? random.nextInt(1 << 24) : random.nextInt(12) - 2;
    }

    private static void call(RainbowHulls x, Method m, Random random) throws IllegalAccessException {
        Object[] arguments = new Object[m.getParameterCount()];
        for (int i = 0; i < arguments.length; i++) {
            arguments[i] = someNumber(random);
        }
        try {
            m.invoke(x, arguments);
        } catch (InvocationTargetException e) {
            check(false, m.getName() + Arrays.toString(arguments) + " threw " + e.getCause());
        }
    }

    private static void checkNothingThrows() throws IllegalAccessException {
        Random random = new Random(7);
        List<Method> methods = new ArrayList<>();
        for (Method m : RainbowHulls.class.getDeclaredMethods()) {
            if (Modifier.isPublic(m.getModifiers())) {
                methods.add(m);
            }
        }
        for (int round = 0; round < 300; round++) {
            RainbowHulls x = new RainbowHulls();
            int size = random.nextInt(25);
            for (int i = 0; i < size; i++) {
                x.adds(random.nextInt(41) - 20, random.nextInt(41) - 20, random.nextInt(3));
            }
            for (int i = size; i < 512; i++) {
                call(x, methods.get(random.nextInt(methods.size())), random);
            }
        }
    }

    private static long dearest(RainbowHulls x) {
        long sum = 0;
        int all = (1 << 24) - 1;
        x.feed(0x72656420, 0x312d323b, 0x20202020, 0x20202020, 0x20202020);
        sum += x.end(10) + x.corners(all) + x.area(all) + x.places(all) + x.nearest(all, 3) + x.line(all, 2);
        sum += x.tie(15, 3) + x.radon(15, 2) + x.balance(0) + x.steps() + x.weight(0, 1, 0) + x.left(1);
        sum += x.rainbows() + x.rainbow(5, 1) + x.mixture(0, 1, 2, 3) + x.exchanges(0, 1, 2, 0) + x.starts(0);
        sum += x.exchanged(0, 1, 2, 1, 3) + x.distance(0, 1, 2, 0, 0) + x.meet(255, 511) + x.meeting(7, 56, 0);
        sum += x.apart(7, 1 << 20, 0) + x.partings(127, 3, 0) + x.part(127, 2, 0, 0) + x.met(127, 3, 1, 0);
        sum += x.depth(0, 0) + x.triangles(0, 0, 0) + x.deepest(2) + x.frees(1);
        return sum;
    }

    private static RainbowHulls full() {
        RainbowHulls x = new RainbowHulls();
        Random random = new Random(3);
        for (int i = 0; i < 24; i++) {
            x.adds(random.nextInt(41) - 20, random.nextInt(41) - 20, i % 3);
            x.loads(i, i < 6 ? 9 : 0);
        }
        return x;
    }

    /** A text of each kind of line, and each change. */
    private static long changing(RainbowHulls x) {
        long sum = x.feed(0x72656420, 0x312d322c, 0x3420356c, 0x6f616420, 0x393b2020);
        sum += x.feed(0x63656e74, 0x72652031, 0x20313b20, 0x626c7565, 0x20332034) + x.end(40) + x.points() + x.fault(1);
        sum += x.feed(0x72656420, 0x312d322c, 0x3420356c, 0x6f616420, 0x393b2020) + x.points() + x.count(4);
        sum += x.adds(1, 2, 1) + x.adds(2, 2, 2) + x.moves(0, 3, 3) + x.paints(1, 2) + x.loads(1, 5) + x.centres(2, -2);
        return sum + x.removes(3) + x.removes(2);
    }

    private static long bytesMade(com.sun.management.ThreadMXBean bean) {
        return bean.getThreadAllocatedBytes(Thread.currentThread().getId());
    }

    /** All calls of a run share one room: what a call makes must be nothing, what an object takes little. */
    private static void checkRoom() {
        com.sun.management.ThreadMXBean bean =
            (com.sun.management.ThreadMXBean) ManagementFactory.getThreadMXBean();
        RainbowHulls x = full();
        dearest(x);
        long before = bytesMade(bean);
        for (int i = 0; i < 12; i++) {
            dearest(x);
        }
        long made = bytesMade(bean) - before;
        check(made < 2000, "twelve rounds of the dearest calls make nothing: " + made + " bytes");
        x = full();
        changing(x);
        before = bytesMade(bean);
        for (int i = 0; i < 20; i++) {
            changing(x);
        }
        made = bytesMade(bean) - before;
        check(made < 2000, "twenty rounds of texts and changes make nothing: " + made + " bytes");
        before = bytesMade(bean);
        new RainbowHulls();
        made = bytesMade(bean) - before;
        check(made < 16000, "an object takes little: " + made + " bytes");
    }

    public static void main(String[] args) throws Exception {
        checkFace();
        checkNothingThrows();
        checkRoom();
        System.out.println(wrong == 0 ? "all rules are kept" : wrong + " rules are not kept");
        if (wrong != 0) {
            System.exit(1);
        }
    }
}
