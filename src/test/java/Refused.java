import java.util.NoSuchElementException;
import java.util.function.Consumer;
import java.util.function.Supplier;

/**
 * Calls that are refused: what they throw, and that nothing has changed, by the answers of later calls
 * beside those of an object that was made alike and was not asked.
 */
final class Refused {
    private static final char[] FAR_LETTERS = {0, 1, ' ', 127, 128, 255, 256, Character.MAX_VALUE};

    /** A call with a number. */
    interface Numbered {
        void on(HorologeBench bench, int number);
    }

    /** A call with a letter. */
    interface Lettered {
        void on(HorologeBench bench, char letter);
    }

    private Refused() {
    }

    static void argument(String what, Supplier<HorologeBench> maker, Consumer<HorologeBench> call) {
        by(IllegalArgumentException.class, what, maker, call);
    }

    static void state(String what, Supplier<HorologeBench> maker, Consumer<HorologeBench> call) {
        by(IllegalStateException.class, what, maker, call);
    }

    static void unsupported(String what, Supplier<HorologeBench> maker, Consumer<HorologeBench> call) {
        by(UnsupportedOperationException.class, what, maker, call);
    }

    static void index(String what, Supplier<HorologeBench> maker, Consumer<HorologeBench> call) {
        by(IndexOutOfBoundsException.class, what, maker, call);
    }

    static void none(String what, Supplier<HorologeBench> maker, Consumer<HorologeBench> call) {
        by(NoSuchElementException.class, what, maker, call);
    }

    static void arithmetic(String what, Supplier<HorologeBench> maker, Consumer<HorologeBench> call) {
        by(ArithmeticException.class, what, maker, call);
    }

    /** The first number on each side of a range, and the farthest ones, as a wrong argument. */
    static void outside(String what, int least, int most, Supplier<HorologeBench> maker, Numbered call) {
        for (int number : beyond(least, most)) {
            argument(what + " " + number, maker, bench -> call.on(bench, number));
        }
    }

    /** The same for a number of something that there has to be. */
    static void noSuch(String what, int least, int most, Supplier<HorologeBench> maker, Numbered call) {
        for (int number : beyond(least, most)) {
            index(what + " " + number, maker, bench -> call.on(bench, number));
        }
    }

    /** The letters beside those that there are, great ones, far ones, and then all others. */
    static void letters(String what, String good, Supplier<HorologeBench> maker, Lettered call) {
        for (char letter : good.toCharArray()) {
            for (int beside : new int[] {letter - 1, letter + 1, Character.toUpperCase(letter), letter + 256}) {
                letter(what, good, (char) beside, maker, call);
            }
        }
        for (char far : FAR_LETTERS) {
            letter(what, good, far, maker, call);
        }
        allLetters(what, good, maker, call);
    }

    private static void letter(String what, String good, char letter, Supplier<HorologeBench> maker,
            Lettered call) {
        if (good.indexOf(letter) < 0) {
            argument(what + " " + (int) letter, maker, bench -> call.on(bench, letter));
        }
    }

    private static void allLetters(String what, String good, Supplier<HorologeBench> maker, Lettered call) {
        int refused = 0;
        HorologeBench bench = null;
        for (int number = 0; number <= Character.MAX_VALUE; number++) {
            // An object is used for at most 512 calls.
            if (number % 300 == 0) {
                bench = maker.get();
            }
            try {
                call.on(bench, (char) number);
            } catch (IllegalArgumentException e) {
                refused++;
            } catch (RuntimeException e) {
                continue;
            }
        }
        Due.is(what + ": so many letters are refused", refused, Character.MAX_VALUE + 1 - good.length());
    }

    private static int[] beyond(int least, int most) {
        return new int[] {least - 1, most + 1, Integer.MIN_VALUE, Integer.MAX_VALUE};
    }

    private static void by(Class<? extends RuntimeException> want, String what,
            Supplier<HorologeBench> maker, Consumer<HorologeBench> call) {
        HorologeBench asked = maker.get();
        Due.throwing(what, want, () -> call.accept(asked));
        String got = Later.answers(asked);
        String due = Later.answers(maker.get());
        Due.isTrue(what + ": nothing has changed; it answers " + got + ", due is " + due, got.equals(due));
    }
}
