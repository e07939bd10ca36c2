import java.util.function.Supplier;

/** Calls that are written as text: "use 0 3 2" is use(0, 3, 2), and several are parted by semicolons. */
final class Calls {
    private Calls() {
    }

    static TypeTrays after(String calls) {
        TypeTrays trays = new TypeTrays();
        make(trays, calls);
        return trays;
    }

    static Supplier<TypeTrays> builder(String calls) {
        return () -> after(calls);
    }

    static void make(TypeTrays trays, String calls) {
        for (String call : calls.split(";")) {
            if (!call.isBlank()) {
                answer(trays, call);
            }
        }
    }

    static long answer(Object trays, String call) {
        String[] words = call.trim().split(" +");
        int[] numbers = new int[words.length - 1];
        for (int index = 0; index < numbers.length; index++) {
            numbers[index] = Integer.parseInt(words[index + 1]);
        }
        return Caller.call(trays, words[0], numbers);
    }

    static void due(TypeTrays trays, String call, long want) {
        Check.due(call, want, () -> answer(trays, call));
    }

    static void thrown(TypeTrays trays, String call, Class<? extends RuntimeException> want) {
        Check.thrown(call, want, () -> answer(trays, call));
    }

    /** "cut 0 6 6; cut 1 6 6; " and so on for so many signs. */
    static String cuts(int signs, int width, int height) {
        StringBuilder calls = new StringBuilder();
        for (int sign = 0; sign < signs; sign++) {
            calls.append("cut ").append(sign).append(' ').append(width).append(' ').append(height).append("; ");
        }
        return calls.toString();
    }

    /** The same call with each of the numbers in turn. */
    static String forEach(String call, int... numbers) {
        StringBuilder calls = new StringBuilder();
        for (int number : numbers) {
            calls.append(call.replace("#", Integer.toString(number))).append("; ");
        }
        return calls.toString();
    }
}
