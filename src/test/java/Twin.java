import java.util.function.Supplier;

/** Compares an object with another one that was built by the same calls. */
final class Twin {
    private Twin() {
    }

    static void refused(Supplier<TypeTrays> build, String call, Class<? extends RuntimeException> want) {
        TypeTrays trays = build.get();
        Calls.thrown(trays, call, want);
        compare(call + " is refused", build.get(), trays);
    }

    static void changesNothing(Supplier<TypeTrays> build, String call) {
        TypeTrays trays = build.get();
        Calls.answer(trays, call);
        compare(call + " changes nothing", build.get(), trays);
    }

    /** The builder may leave at most three states on the stack, as a fourth would be dropped by the call. */
    static void undone(Supplier<TypeTrays> build, String call) {
        TypeTrays trays = build.get();
        Calls.answer(trays, call);
        Check.compare(call + " is undone", "once", Check.answerOf(trays::undo).startsWith("throws") ? "not" : "once");
        compare(call + " is undone", build.get(), trays);
    }

    /** What both tell now, what each of their saved states brings back, and what their texts do. */
    static void compare(String what, TypeTrays due, TypeTrays got) {
        compareAnswers(what, due, got, "digest");
        for (int times = 0; times < 5; times++) {
            compareAnswers(what, due, got, "undo");
            compareAnswers(what, due, got, "digest");
        }
        compareAnswers(what, due, got, "runCommands");
        compareAnswers(what, due, got, "digest");
        compareAnswers(what, due, got, "clearCommands");
    }

    private static void compareAnswers(String what, TypeTrays due, TypeTrays got, String call) {
        String want = Check.answerOf(() -> Calls.answer(due, call));
        Check.compare(what + ", and then " + call, want, Check.answerOf(() -> Calls.answer(got, call)));
    }
}
