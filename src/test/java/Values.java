import java.math.BigInteger;
import java.util.ArrayList;
import java.util.List;
import java.util.function.Supplier;

/**
 * The values that the digest of promise 24 is made of, in its order, but for the number of states on the stack. Each is
 * asked of an object of its own, since an object is used for at most 512 calls.
 */
final class Values {
    private static final BigInteger OVERFLOW = BigInteger.ONE.shiftLeft(64);

    private final Supplier<TypeTrays> build;
    private final List<Long> values = new ArrayList<>();

    private Values(Supplier<TypeTrays> build) {
        this.build = build;
    }

    static List<Long> of(Supplier<TypeTrays> build) {
        Values all = new Values(build);
        all.addEach("whole #", 12);
        for (int sign = 0; sign <= 15; sign++) {
            all.addEach("sign " + sign + " #", 3);
        }
        for (int letter = 0; letter < 16 * 9; letter++) {
            all.addEach("letter " + letter / 9 + " " + (letter / 3 % 3 + 1) + " " + letter % 3 + " #", 8);
        }
        all.addTrays();
        all.addEach("street #", (int) all.ask("whole 3") - 1);
        all.values.add(all.ask("oldest"));
        all.values.add(all.ask("greatestGap"));
        return all.values;
    }

    private void addTrays() {
        long trays = ask("whole 0");
        for (int tray = 0; tray < trays; tray++) {
            addEach("tray " + tray + " #", 3);
            long shelves = ask("tray " + tray + " 0");
            for (int shelf = 0; shelf < shelves; shelf++) {
                addEach("shelf " + tray + " " + shelf + " #", 6);
            }
        }
    }

    private long ask(String call) {
        return Calls.answer(build.get(), call);
    }

    private void addEach(String call, int last) {
        for (int number = 0; number <= last; number++) {
            values.add(ask(call.replace("#", Integer.toString(number))));
        }
    }

    /** The digest as the document tells it, in numbers that do not overflow, and then cut to 64 bits. */
    static long digest(Supplier<TypeTrays> build, int states) {
        BigInteger hash = BigInteger.valueOf(31L * 43532 + states);
        for (long value : of(build)) {
            hash = hash.multiply(BigInteger.valueOf(31)).add(BigInteger.valueOf(value));
        }
        return hash.mod(OVERFLOW).longValue();
    }
}
