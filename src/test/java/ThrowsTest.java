import java.lang.reflect.InvocationTargetException;
import java.lang.reflect.Method;
import java.nio.file.Files;
import java.nio.file.Path;
import java.util.Arrays;
import java.util.HashMap;
import java.util.List;
import java.util.Map;
import java.util.Random;
import java.util.Set;
import java.util.TreeSet;
import java.util.regex.Matcher;
import java.util.regex.Pattern;

/**
 * Rule 7 of LANGUAGE.md: whatever is asked, in any state, a call throws nothing but what the document
 * names for it, and never by the machine. The runs are much longer than the 512 calls for which
 * answers are promised, and fixed by their seeds.
 */
public final class ThrowsTest {
    private static final int RUNS = 40;
    private static final int CALLS = 8000;
    private static final int[] FAR = {Integer.MIN_VALUE, Integer.MIN_VALUE + 1, Integer.MAX_VALUE,
        Integer.MAX_VALUE - 1, -1000000, 1000000, -65536, 65536};
    private static final String LETTERS = "lcdpaqrwbmshy53n";

    private static Random random;

    public static void main(String[] args) throws Exception {
        Map<String, Set<String>> documented = documented();
        Due.is("throws: calls of the document", documented.size(), 67);
        for (int run = 0; run < RUNS; run++) {
            goRun(run, documented);
        }
        // No draw comes to it; ArborEdgesTest does.
        documented.get("loosen").remove("ArithmeticException");
        for (String name : documented.keySet()) {
            Due.isTrue("throws: " + name + " never threw " + documented.get(name), documented.get(name).isEmpty());
        }
        Due.end();
    }

    /** What each call may throw, as the public face of the document says it. */
    private static Map<String, Set<String>> documented() throws Exception {
        String page = Files.readString(Path.of("../shared/DOC.md"));
        int start = page.indexOf("public HorologeBench();");
        String face = page.substring(start, page.indexOf("```", start));
        Map<String, Set<String>> all = new HashMap<>();
        Matcher line = Pattern.compile("public \\w+ (\\w+)\\([^)]*\\)(?: throws ([^;]*))?;").matcher(face);
        while (line.find()) {
            Set<String> names = new TreeSet<>();
            if (line.group(2) != null) {
                names.addAll(Arrays.asList(line.group(2).split(", ")));
            }
            all.put(line.group(1), names);
        }
        return all;
    }

    /** Takes what was thrown out of what is left to be seen. */
    private static void goRun(int run, Map<String, Set<String>> unseen) throws Exception {
        Map<String, Set<String>> documented = documented();
        List<Method> methods = Calls.all();
        random = new Random(1000 + run);
        HorologeBench bench = new HorologeBench();
        String wrong = "";
        for (int call = 0; call < CALLS && wrong.isEmpty(); call++) {
            Method method = methods.get(random.nextInt(methods.size()));
            // What builds is asked more often, so that most states are met.
            if (random.nextInt(3) == 0) {
                method = Calls.drawnOf(methods, random, "putIn", "wind", "pass", "setHands", "crown", "turn", "mesh");
            }
            Object[] with = drawn(method, run % 3);
            Throwable thrown = thrownBy(bench, method, with);
            if (thrown == null) {
                continue;
            }
            String name = thrown.getClass().getSimpleName();
            if (!documented.get(method.getName()).contains(name) || isOfTheMachine(thrown)) {
                wrong = method.getName() + Arrays.toString(with) + " threw " + thrown;
            }
            unseen.get(method.getName()).remove(name);
        }
        Due.isTrue("throws: run " + run + " " + wrong, wrong.isEmpty());
    }

    private static boolean isOfTheMachine(Throwable thrown) {
        String text = String.valueOf(thrown.getMessage());
        return text.equals("null") || text.contains("by zero") || text.contains("out of bounds");
    }

    private static Throwable thrownBy(HorologeBench bench, Method method, Object[] with) throws Exception {
        try {
            method.invoke(bench, with);
        } catch (InvocationTargetException e) {
            return e.getCause();
        }
        return null;
    }

    private static Object[] drawn(Method method, int wildness) {
        Class<?>[] types = method.getParameterTypes();
        Object[] with = new Object[types.length];
        for (int i = 0; i < types.length; i++) {
            if (types[i] == boolean.class) {
                with[i] = random.nextBoolean();
            } else if (types[i] == char.class) {
                with[i] = random.nextInt(8) == 0 ? (char) random.nextInt(65536)
                        : LETTERS.charAt(random.nextInt(LETTERS.length()));
            } else {
                with[i] = drawnNumber(wildness);
            }
        }
        return with;
    }

    private static int drawnNumber(int wildness) {
        int kind = random.nextInt(24);
        if (kind < wildness) {
            return FAR[random.nextInt(FAR.length)];
        }
        if (kind == 23) {
            return random.nextInt();
        }
        if (kind > 17) {
            return random.nextInt(2003) - 1001;
        }
        return kind > 13 ? random.nextInt(202) : random.nextInt(20) - 2;
    }
}
