import java.util.function.Supplier;

/** The sentences of promises 20 to 24, each with a test of its own, and that the document has no other parts. */
public final class SentencesOfCommandsTest {
    private static final Class<IllegalArgumentException> ARGUMENT = IllegalArgumentException.class;
    private static final Class<IllegalStateException> STATE = IllegalStateException.class;
    private static final String FULL_STREET =
            Calls.cuts(8, 6, 6) + Calls.forEach("use # 3 2", 0, 1, 2, 3, 4);

    public static void main(String[] args) {
        type();
        clearCommands();
        runCommands();
        undo();
        digest();
        partsOfTheDocument();
        Check.end();
    }

    private static TypeTrays typed(String calls, String text) {
        TypeTrays trays = Calls.after(calls);
        Check.type(trays, text);
        return trays;
    }

    // ---- type and clearCommands

    private static void type() {
        Document part = Document.part("Promise 20");
        part.holds("Appends a byte to the command text.", SentencesOfCommandsTest::typeAppends);
        part.holds("`value`: 0 to 127", () -> {
            for (int value = 0; value <= 127; value++) {
                Calls.due(new TypeTrays(), "type " + value, 1);
            }
        });
        part.holds("Returns the length of the text.", SentencesOfCommandsTest::typeReturnsTheLength);
        part.holds("Throws `IllegalArgumentException` if value is out of range", () -> {
            for (int value : new int[] {-1, 128, 255, 256, Integer.MIN_VALUE, Integer.MAX_VALUE}) {
                Twin.refused(() -> typed("newLine", "line;"), "type " + value, ARGUMENT);
            }
        });
        part.holds("Throws `IllegalStateException` if the text has 150 bytes", () -> {
            Twin.refused(() -> typed("newLine", "line;" + " ".repeat(145)), "type 32", STATE);
            Calls.due(typed("", " ".repeat(149)), "type 32", 150);
            Calls.due(typed("", " ".repeat(149)), "type 0", 150);
        });
        part.end();
    }

    private static void typeAppends() {
        TypeTrays trays = typed("", "lin");
        Calls.due(trays, "runCommands", -10);
        Check.type(trays, "e");
        Calls.due(trays, "runCommands", -14);
        Check.type(trays, ";");
        Calls.due(trays, "runCommands", 1);
        Check.type(trays, "tray;");
        Calls.due(trays, "runCommands", 2);
        Calls.due(trays, "whole 4", 2);
        Calls.due(trays, "whole 0", 2);
    }

    private static void typeReturnsTheLength() {
        TypeTrays trays = new TypeTrays();
        for (int length = 1; length <= 150; length++) {
            Calls.due(trays, "type 32", length);
        }
        Calls.due(trays, "clearCommands", 150);
        Calls.due(trays, "type 32", 1);
        Calls.make(trays, "runCommands; undo");
        Calls.due(trays, "type 32", 2);
    }

    private static void clearCommands() {
        Document part = Document.part("Promise 21");
        part.holds("Empties the command text.", () -> {
            TypeTrays trays = typed("", "line;");
            trays.clearCommands();
            Calls.due(trays, "whole 12", 0);
            Check.type(trays, "tray;");
            Calls.due(trays, "runCommands", 1);
            Calls.due(trays, "whole 4", 0);
            Calls.due(trays, "whole 0", 2);
            Calls.due(trays, "whole 12", 5);
        });
        part.holds("Returns the length that it had.", () -> {
            Calls.due(new TypeTrays(), "clearCommands", 0);
            Calls.due(typed("", "l"), "clearCommands", 1);
            TypeTrays trays = typed("", "line;".repeat(30));
            Calls.due(trays, "clearCommands", 150);
            Calls.due(trays, "clearCommands", 0);
        });
        part.end();
    }

    // ---- runCommands

    private static void runCommands() {
        Document part = Document.part("Promise 22");
        part.holds("Runs the command text, which stays as it is.", SentencesOfCommandsTest::textStays);
        part.holds("Undoable, if it has no fault.", SentencesOfCommandsTest::runsAreUndoable);
        part.holds("Returns the number of commands that were carried out;", () -> {
            Calls.due(new TypeTrays(), "runCommands", 0);
            Calls.due(typed("", "  "), "runCommands", 0);
            Calls.due(typed("", "line;"), "runCommands", 1);
            Calls.due(typed("", "line;".repeat(30)), "runCommands", 30);
            Calls.due(typed("", "line;tray;tray;tray;line;"), "runCommands", 3);
        });
        part.holds("-10 minus the fault if it has one.", () -> {
            Calls.due(typed("", "!"), "runCommands", -10);
            Calls.due(typed("", " !"), "runCommands", -11);
            Calls.due(typed("", "line;" + " ".repeat(144) + "!"), "runCommands", -159);
            Calls.due(typed("", "use" + " ".repeat(147)), "runCommands", -160);
            Calls.due(typed("", "use 1 1 0;use 1 1 0;use 1 1 00"), "runCommands", -40);
        });
        part.end();
    }

    private static void textStays() {
        TypeTrays trays = typed("", "line;use 0 1 0;");
        for (int times = 1; times <= 3; times++) {
            Calls.due(trays, "runCommands", 2);
            Calls.due(trays, "whole 12", 15);
            Calls.due(trays, "whole 4", times);
        }
        TypeTrays fault = typed("", "line;x");
        Calls.due(fault, "runCommands", -15);
        Calls.due(fault, "whole 12", 6);
        Calls.due(fault, "runCommands", -15);
    }

    private static void runsAreUndoable() {
        Twin.undone(() -> typed("use 0 1 0", "cut 0 3 3;use 0 1 0;line;tray;close;drop 0 1 0;"), "runCommands");
        Twin.undone(() -> typed("use 0 1 0", "drop 1 1 0;line;"), "runCommands");
        Twin.undone(() -> typed("use 0 1 0", ""), "runCommands");
        Twin.changesNothing(() -> typed("use 0 1 0", "line;drop 0 1 0"), "runCommands");
        TypeTrays fault = typed("newLine", "line;line");
        Calls.due(fault, "runCommands", -19);
        Calls.due(fault, "undo", 0);
        Calls.due(fault, "whole 4", 0);
    }

    // ---- undo

    private static void undo() {
        Document part = Document.part("Promise 23");
        part.holds("Restores the latest saved state", SentencesOfCommandsTest::latestStateIsRestored);
        part.holds("and removes it from the undo stack.", SentencesOfCommandsTest::restoredStateIsRemoved);
        part.holds("Returns the number of states that are left on the stack.", () -> {
            TypeTrays trays = Calls.after("newLine; newLine; newLine; newLine; newLine; newLine");
            for (int left = 3; left >= 0; left--) {
                Calls.due(trays, "undo", left);
            }
            Calls.due(Calls.after("newLine"), "undo", 0);
            Calls.due(Calls.after("newLine; newLine; undo; newLine; newLine"), "undo", 2);
        });
        part.holds("Throws `IllegalStateException` if the stack is empty", () -> {
            Twin.refused(TypeTrays::new, "undo", STATE);
            Twin.refused(() -> typed("newLine; undo", "line;"), "undo", STATE);
            Twin.refused(Calls.builder("newLine; newLine; newLine; newLine; newLine; undo; undo; undo; undo"), "undo",
                    STATE);
            Twin.refused(() -> typed("", "line"), "undo", STATE);
        });
        part.end();
    }

    private static void latestStateIsRestored() {
        String busy = FULL_STREET + "use 9 1 0; newLine; use 9 1 0; use 0 3 2; addTray; drop 2 3 2";
        String[] changes = {"cut 9 3 3; use 9 1 0; cut 1 1 1; newLine", "use 5 3 2; use 6 3 2; use 7 3 2; drop 0 3 2",
            "drop 0 3 2; drop 9 1 0; closeShelves; use 3 3 2", "newLine; use 5 3 1; use 6 3 0; use 7 3 2"};
        for (String change : changes) {
            Check.compare("all values after " + change + " and four times undo", Values.of(Calls.builder(busy)).toString(),
                    Values.of(Calls.builder(busy + "; " + change + "; undo; undo; undo; undo")).toString());
        }
    }

    private static void restoredStateIsRemoved() {
        TypeTrays trays = Calls.after("newLine; newLine; newLine");
        for (int line = 2; line >= 0; line--) {
            Calls.make(trays, "undo");
            Calls.due(trays, "whole 4", line);
        }
        Calls.thrown(trays, "undo", STATE);
        Calls.due(trays, "whole 4", 0);
    }

    // ---- digest

    private static void digest() {
        Document part = Document.part("Promise 24");
        part.holds("Returns a hash of the state.", () -> {
            digests(FULL_STREET, 4);
            Twin.changesNothing(Calls.builder("use 0 1 0"), "digest");
        });
        part.holds("It starts with h = 43532.", () -> digests("", 0));
        part.holds("For each of the following values v, in this order, h becomes 31 * h + v",
                () -> digests("cut 0 4 3; use 0 1 0; use 3 2 1", 3));
        part.holds("(long arithmetic, overflow wraps).", () -> digests("cut 15 6 6; use 15 3 2; newLine", 3));
        part.holds("the number of states on the undo stack;", SentencesOfCommandsTest::statesInTheDigest);
        part.holds("whole() of 0 to 12;", SentencesOfCommandsTest::wholeInTheDigest);
        part.holds("for each sign sign() of 0 to 3;", () -> {
            digests("cut 0 1 6", 1);
            digests("cut 15 6 1", 1);
            digests(FULL_STREET + "use 15 1 0; drop 4 3 2", 4);
        });
        part.holds("for each sign, for each size, and for each blur of these, letter() of 0 to 8;", () -> {
            digests("use 0 1 0; use 0 1 2; use 0 3 0", 3);
            digests("use 15 3 2; use 15 3 2; newLine; use 15 3 1", 4);
            digests("cut 15 6 6; use 15 3 2; use 15 3 1", 3);
        });
        part.holds("for each tray in turn tray() of 0 to 3, and for each of its shelves shelf() of 0 to 6;",
                SentencesOfCommandsTest::traysInTheDigest);
        part.holds("street() for each letter of it;", () -> {
            digests(FULL_STREET + "undo", 3);
            digests(FULL_STREET + "drop 1 3 2; use 1 3 2", 4);
        });
        part.holds("oldest();", () -> {
            digests("use 3 1 0; use 2 1 0; use 3 1 0", 3);
            digests("use 3 1 0; drop 3 1 0", 2);
        });
        part.holds("greatestGap().", () -> {
            digests("use 0 1 0; use 1 2 0; drop 1 2 0", 3);
            digests("cut 0 6 6; use 0 3 2; use 1 1 0", 3);
        });
        part.holds("Returns the hash.", () -> digests("addTray; newLine", 2));
        part.end();
    }

    private static void digests(String calls, int states) {
        digests(Calls.builder(calls), calls, states);
    }

    private static void digests(Supplier<TypeTrays> build, String calls, int states) {
        Check.due("digest after " + calls, Values.digest(build, states), () -> build.get().digest());
    }

    private static void statesInTheDigest() {
        digests("", 0);
        digests("newLine", 1);
        digests("newLine; newLine; newLine; newLine", 4);
        digests("newLine; newLine; newLine; newLine; newLine", 4);
        digests("newLine; newLine; newLine; newLine; newLine; undo", 3);
        digests("newLine; undo", 0);
    }

    private static void wholeInTheDigest() {
        digests("addTray; use 0 1 0; use 0 1 0; newLine; use 0 1 1; drop 0 1 0", 4);
        digests(() -> typed("newLine", "x"), "newLine and a text", 1);
        digests(() -> typed("", " ".repeat(150)), "a full text", 0);
    }

    private static void traysInTheDigest() {
        digests("addTray", 1);
        digests("addTray; addTray; cut 0 6 6; use 0 3 2; use 0 3 1; undo", 3);
        digests("use 0 1 0; use 0 2 0; use 0 3 0; drop 0 2 0", 4);
        digests("addTray; addTray; " + FULL_STREET + "use 9 1 0", 4);
        digests("use 0 1 0; drop 0 1 0; closeShelves", 3);
    }

    private static void partsOfTheDocument() {
        if (!Document.isThere()) {
            System.out.println("there is no ../shared/DOC.md to compare the sentences with");
            return;
        }
        StringBuilder due = new StringBuilder("/What it is/The public face/Terms/SIGNS AND LETTERS/"
                + "TRAYS AND SHELVES/USING A LETTER/TEXTS OF COMMANDS/UNDO/EXCEPTIONS/");
        String[] promises = {"A new object", "cut", "use", "drop", "newLine", "addTray", "closeShelves", "letter", "sign",
            "tray", "shelf", "at", "street", "whole", "rule", "takenBy", "costOf", "oldest", "greatestGap", "type",
            "clearCommands", "runCommands", "undo", "digest"};
        for (int index = 0; index < promises.length; index++) {
            due.append("Promise ").append(index + 1).append(": ").append(promises[index]).append('/');
        }
        due.append("Not promised/");
        StringBuilder found = new StringBuilder();
        for (String name : Document.names()) {
            found.append(name).append('/');
        }
        Check.compare("the parts of the document", due.toString(), found.toString());
    }
}
