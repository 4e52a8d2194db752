import java.lang.reflect.Method;
import java.lang.reflect.Modifier;
import java.nio.file.Files;
import java.nio.file.Path;
import java.util.HashMap;
import java.util.Map;
import java.util.regex.Matcher;
import java.util.regex.Pattern;

/** The calls that README.md shows answer what it tells, and it names every call. */
public final class ReadmeTest {
    private static final Pattern CALL =
        Pattern.compile("hulls\\.(\\w+)\\(([^)]*)\\);\\s+// (-?\\d+|NONE|NO_SUCH)\\b.*");

    private static int wrong = 0;

    private static void check(boolean fine, String what) {
        if (!fine) {
            wrong++;
            System.out.println("not so: " + what);
        }
    }

    private static int number(String told) {
        return told.startsWith("0b") ? Integer.parseInt(told.substring(2), 2) : Integer.decode(told);
    }

    private static long answer(String told) {
        return told.equals("NONE") ? RainbowHulls.NONE : told.equals("NO_SUCH") ? RainbowHulls.NO_SUCH : Long.parseLong(told);
    }

    private static Map<String, Method> face() {
        Map<String, Method> methods = new HashMap<>();
        for (Method m : RainbowHulls.class.getDeclaredMethods()) {
            if (Modifier.isPublic(m.getModifiers())) {
                methods.put(m.getName(), m);
            }
        }
        return methods;
    }

    private static long call(Method method, RainbowHulls hulls, String told) throws ReflectiveOperationException {
        String[] parts = told.isEmpty() ? new String[0] : told.split(", ");
        Object[] arguments = new Object[parts.length];
        for (int i = 0; i < parts.length; i++) {
            arguments[i] = number(parts[i]);
        }
        return ((Number) method.invoke(hulls, arguments)).longValue();
    }

    public static void main(String[] args) throws Exception {
        String text = Files.readString(Path.of("README.md"));
        Map<String, Method> methods = face();
        methods.keySet().forEach(name -> check(text.contains("`" + name + "`"), "README.md names " + name));
        RainbowHulls hulls = null;
        int made = 0;
        for (String line : text.split("\n")) {
            if (line.equals("RainbowHulls hulls = new RainbowHulls();")) {
                hulls = new RainbowHulls();
            } else if (line.startsWith("hulls.")) {
                Matcher m = CALL.matcher(line);
                check(m.matches(), "a call and its answer: " + line);
                if (m.matches()) {
                    made++;
                    long got = call(methods.get(m.group(1)), hulls, m.group(2));
                    check(got == answer(m.group(3)), line + " answered " + got);
                }
            }
        }
        check(made >= 20, "calls are shown: " + made);
        System.out.println(made + " calls: " + (wrong == 0 ? "all are as told" : wrong + " are not as told"));
        if (wrong != 0) {
            System.exit(1);
        }
    }
}
