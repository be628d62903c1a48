import java.lang.reflect.InvocationTargetException;
import java.lang.reflect.Method;
import java.util.Arrays;
import java.util.List;
import java.util.Random;

/**
 * Holds long runs of drawn calls against NaiveBench, the plain second telling of the document, and
 * after each call all that an object shows: so a call that throws is seen to change nothing. The
 * seeds are fixed, so that each run is the same every time.
 */
public final class RandomRunsTest {
    private static final int RUNS = 400;
    private static final int CALLS = 512;
    private static final int[] HARD = {Integer.MIN_VALUE, Integer.MAX_VALUE, -1, 0, 1, 1000000, 1000001};
    private static final String LETTERS = "lcdpaqrwbmshy53nx\0\uffff";
    private static final String[] SHOWN = {
        "isWhole", "force", "goes", "rate", "strikes", "rings", "reserve", "swing", "moon", "sunTime",
        "turned", "fullness", "meanGain", "isSound", "lastStrike", "repeat", "stopsFirst"};
    private static final String[] SHOWN_BY_CHAR = {"shows", "calendar", "zone", "counter"};

    private static Random random;

    public static void main(String[] args) throws Exception {
        List<Method> methods = Calls.all();
        for (int run = 0; run < RUNS; run++) {
            if (!goRun(run, methods)) {
                break;
            }
        }
        Due.end();
    }

    private static boolean goRun(int run, List<Method> methods) throws Exception {
        random = new Random(run);
        HorologeBench bench = new HorologeBench();
        NaiveBench naive = new NaiveBench();
        StringBuilder told = new StringBuilder("run " + run + ":");
        boolean isArborRun = run % 4 == 0;
        for (int call = 0; call < CALLS; call++) {
            Method method = methods.get(random.nextInt(methods.size()));
            if (isArborRun && random.nextInt(4) > 0) {
                method = Calls.drawnOf(methods, random, "addArbor", "mesh", "mesh", "fasten", "differ",
                        "loosen", "addStar", "turn", "turn", "turn");
            } else if (random.nextInt(3) == 0) {
                method = Calls.drawnOf(methods, random, "putIn", "putIn", "putIn", "wind", "pass", "pass",
                        "setHands", "push", "crown", "setFault", "takeOut");
            }
            // The plain search for a train is too slow to be asked often.
            if (method.getName().startsWith("train") && random.nextInt(6) > 0) {
                continue;
            }
            if (method.getName().equals("takeOut") && random.nextInt(4) > 0) {
                continue;
            }
            Object[] with = drawn(method);
            told.append(' ').append(method.getName()).append(Arrays.toString(with));
            String got = answer(bench, method, with);
            String want = answer(naive, twin(method), with);
            if (!got.equals(want)) {
                Due.isTrue(told + " answered " + got + ", the plain bench " + want, false);
                return false;
            }
            String shown = shown(bench);
            String due = shown(naive);
            if (!shown.equals(due)) {
                Due.isTrue(told + " left " + shown + ", the plain bench " + due, false);
                return false;
            }
        }
        Due.isTrue("run " + run, true);
        return true;
    }

    private static Method twin(Method method) throws Exception {
        return NaiveBench.class.getMethod(method.getName(), method.getParameterTypes());
    }

    private static String answer(Object bench, Method method, Object[] with) throws Exception {
        try {
            return String.valueOf(method.invoke(bench, with));
        } catch (InvocationTargetException e) {
            return e.getCause().getClass().getName();
        }
    }

    private static String shown(Object bench) throws Exception {
        StringBuilder all = new StringBuilder();
        for (String name : SHOWN) {
            all.append(name).append('=').append(answer(bench, bench.getClass().getMethod(name), new Object[0]));
            all.append(' ');
        }
        for (String name : SHOWN_BY_CHAR) {
            Method method = bench.getClass().getMethod(name, char.class);
            for (char letter : "hmdsy".toCharArray()) {
                all.append(name).append(letter).append('=').append(answer(bench, method, new Object[] {letter}));
                all.append(' ');
            }
        }
        Method chronograph = bench.getClass().getMethod("chronograph", boolean.class);
        all.append(answer(bench, chronograph, new Object[] {true}));
        Method turnsOf = bench.getClass().getMethod("turnsOf", int.class, char.class);
        Method star = bench.getClass().getMethod("star", int.class);
        Method lastIn = bench.getClass().getMethod("lastIn", int.class);
        for (int number = 0; number < 16; number++) {
            all.append(' ').append(answer(bench, turnsOf, new Object[] {number, 'n'}));
            all.append('/').append(answer(bench, turnsOf, new Object[] {number, 'd'}));
            all.append(' ').append(answer(bench, star, new Object[] {number}));
            all.append(' ').append(answer(bench, lastIn, new Object[] {number}));
        }
        return all.toString();
    }

    private static Object[] drawn(Method method) {
        Class<?>[] types = method.getParameterTypes();
        Object[] with = new Object[types.length];
        for (int i = 0; i < types.length; i++) {
            if (types[i] == boolean.class) {
                with[i] = random.nextBoolean();
            } else if (types[i] == char.class) {
                with[i] = drawnLetter(method.getName());
            } else if (random.nextInt(60) == 0) {
                with[i] = HARD[random.nextInt(HARD.length)];
            } else {
                with[i] = drawnNumber(method.getName(), i);
            }
        }
        return with;
    }

    private static char drawnLetter(String name) {
        if (random.nextInt(25) == 0) {
            return LETTERS.charAt(random.nextInt(LETTERS.length()));
        }
        String good;
        switch (name) {
            case "setEscapement":
                good = "lcd";
                break;
            case "setCalendar":
                good = "paq";
                break;
            case "setStrike":
                good = "rw";
                break;
            case "setFault":
                good = "wdbm";
                break;
            case "shows":
                good = "hmsd";
                break;
            case "calendar":
                good = "dmy";
                break;
            case "push":
                good = "abs";
                break;
            case "setMoon":
                good = "53";
                break;
            case "zone":
                good = "hdm";
                break;
            case "turnsOf":
                good = "nd";
                break;
            case "setChronograph":
                good = "wc";
                break;
            default:
                good = "mh";
        }
        return good.charAt(random.nextInt(good.length()));
    }

    private static int from(int least, int most) {
        return least + random.nextInt(most - least + 1);
    }

    private static int drawnNumber(String name, int place) {
        switch (name) {
            case "stage":
                return random.nextInt(3) == 0 ? 60 * from(1, 20) : from(1, 130);
            case "train":
                return place == 2 ? from(-1, 4) : place == 0 ? from(1, 200) * from(1, 40) : from(1, 60);
            case "trainWithin":
                return place == 2 ? from(20, 301) : place == 0 ? from(1, 200) * from(1, 40) : from(1, 60);
            case "putIn":
            case "takeOut":
            case "isIn":
                return from(-1, 10);
            case "lastIn":
                return from(-1, 10);
            case "wind":
                return from(0, 9);
            case "setPosition":
                return from(-61, 61);
            case "setWarmth":
                return from(-1, 41);
            case "pass":
                return random.nextInt(3) == 0 ? from(0, 2001) : random.nextBoolean() ? from(1, 90) : 360;
            case "explains":
                return from(-200, 200) + 300 * from(0, 1);
            case "setHands":
                return random.nextInt(3) == 0 ? 60 * from(-12, 12) : from(-721, 721);
            case "setDate":
                return place == 0 ? (random.nextBoolean() ? from(27, 31) : from(0, 32))
                        : place == 1 ? from(0, 13) : from(-1, 4);
            case "setAlarm":
                return random.nextInt(4) == 0 ? 60 * from(0, 23) : from(-2, 1440);
            case "untilForce":
                return from(0, 10);
            case "setHourRate":
                return place == 0 ? from(-1, 24) : from(-31, 31);
            case "setPoise":
                return from(-21, 21);
            case "crown":
                return from(-2, 3);
            case "setMoonAge":
                return random.nextBoolean() ? from(-1, 950) : from(900, 946);
            case "moonError":
                return from(-1, 100001);
            case "setEquation":
                return place == 0 ? from(0, 13) : from(-18, 18);
            case "jumpZone":
                return from(-4, 4);
            case "mesh":
                return place % 2 == 0 ? from(-1, 16) : from(5, 201);
            case "addStar":
                return place == 0 ? from(-1, 16) : from(3, 32);
            case "turn":
                return place == 0 ? from(-1001, 1001)
                        : random.nextBoolean() ? from(1, 4) : from(0, 1001);
            default:
                return from(-1, 16);
        }
    }
}
