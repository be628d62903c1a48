/** Counts the answers that are not the ones that are due. */
final class Due {
    private static int wrong = 0;
    private static int asked = 0;

    private Due() {
    }

    static void is(String what, long got, long want) {
        tell(got == want, what, String.valueOf(got), String.valueOf(want));
    }

    static void isChar(String what, char got, char want) {
        tell(got == want, what, String.valueOf(got), String.valueOf(want));
    }

    static void isTrue(String what, boolean got) {
        tell(got, what, "false", "true");
    }

    static void isFalse(String what, boolean got) {
        tell(!got, what, "true", "false");
    }

    static void isExactly(String what, double got, double want) {
        tell(got == want, what, String.valueOf(got), String.valueOf(want));
    }

    static void throwing(String what, Class<? extends RuntimeException> want, Runnable call) {
        String got = "nothing thrown";
        try {
            call.run();
        } catch (RuntimeException e) {
            got = e.getClass().getName();
        }
        tell(got.equals(want.getName()), what, got, want.getName());
    }

    private static void tell(boolean isDue, String what, String got, String want) {
        asked++;
        if (!isDue) {
            wrong++;
            System.out.println(what + " answered " + got + ", due is " + want);
        }
    }

    /** The last call of each test: ends the program with 1 if an answer was wrong. */
    static void end() {
        System.out.println(asked + " answers, " + wrong + " wrong");
        if (wrong > 0 || asked == 0) {
            System.exit(1);
        }
    }
}
