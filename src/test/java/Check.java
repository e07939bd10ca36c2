import java.util.function.LongSupplier;

/** Counts and prints the answers that are not due. */
final class Check {
    private static int wrong = 0;
    private static int checked = 0;

    private Check() {
    }

    static int wrong() {
        return wrong;
    }

    static int checked() {
        return checked;
    }

    static void due(String call, long want, LongSupplier answer) {
        compare(call, Long.toString(want), answerOf(answer));
    }

    static void thrown(String call, Class<? extends RuntimeException> want, LongSupplier answer) {
        compare(call, "throws." + want.getSimpleName(), answerOf(answer));
    }

    static void compare(String call, String want, String got) {
        checked++;
        if (!want.equals(got)) {
            wrong++;
            System.out.println(call + " answered " + got + ", due is " + want);
        }
    }

    /** The answer, or the exact class of what is thrown. */
    static String answerOf(LongSupplier answer) {
        try {
            return Long.toString(answer.getAsLong());
        } catch (RuntimeException thrown) {
            return "throws." + thrown.getClass().getSimpleName();
        }
    }

    static void type(TypeTrays trays, String text) {
        for (int index = 0; index < text.length(); index++) {
            trays.type(text.charAt(index));
        }
    }

    /** Ends the test: with exit code 1 if an answer was wrong, or if nothing was checked. */
    static void end() {
        if (wrong > 0 || checked == 0) {
            System.out.println(wrong + " of " + checked + " answers are not as due");
            System.exit(1);
        }
    }
}
