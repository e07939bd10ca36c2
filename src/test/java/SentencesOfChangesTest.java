/** The sentences of promises 1 to 7, each with a test of its own. */
public final class SentencesOfChangesTest {
    private static final Class<IndexOutOfBoundsException> INDEX = IndexOutOfBoundsException.class;
    private static final Class<IllegalArgumentException> ARGUMENT = IllegalArgumentException.class;
    private static final Class<IllegalStateException> STATE = IllegalStateException.class;
    private static final String FULL_STREET =
            Calls.cuts(8, 6, 6) + Calls.forEach("use # 3 2", 0, 1, 2, 3, 4);
    /** One letter of sign 0 on a shelf and one in the street. */
    private static final String LAID = "cut 0 6 6; use 0 3 2; use 0 3 1";

    public static void main(String[] args) {
        newObject();
        cut();
        use();
        drop();
        newLine();
        addTray();
        closeShelves();
        Check.end();
    }

    private static void newObject() {
        Document part = Document.part("Promise 1");
        part.holds("Creates one tray without shelves,", SentencesOfChangesTest::newTray);
        part.holds("with an empty street,", SentencesOfChangesTest::newStreet);
        part.holds("at line 0 and clock 0,", SentencesOfChangesTest::newLineAndClock);
        part.holds("with an empty command text", SentencesOfChangesTest::newText);
        part.holds("and an empty undo stack.", () -> Calls.thrown(new TypeTrays(), "undo", STATE));
        part.end();
    }

    private static void newTray() {
        TypeTrays trays = new TypeTrays();
        Calls.due(trays, "whole 0", 1);
        Calls.due(trays, "whole 1", 0);
        Calls.due(trays, "whole 2", 0);
        Calls.due(trays, "tray 0 0", 0);
        Calls.due(trays, "tray 0 1", 0);
        Calls.thrown(trays, "tray 1 0", INDEX);
        Calls.thrown(trays, "shelf 0 0 0", INDEX);
        Calls.due(trays, "at 0 0 0", -1);
    }

    private static void newStreet() {
        TypeTrays trays = new TypeTrays();
        Calls.due(trays, "street 0", -1);
        Calls.due(trays, "whole 3", 0);
    }

    private static void newLineAndClock() {
        TypeTrays trays = new TypeTrays();
        for (int what = 4; what <= 11; what++) {
            Calls.due(trays, "whole " + what, 0);
        }
    }

    private static void newText() {
        TypeTrays trays = new TypeTrays();
        Calls.due(trays, "whole 12", 0);
        Calls.due(trays, "clearCommands", 0);
        Calls.due(trays, "runCommands", 0);
        Calls.due(new TypeTrays(), "type 0", 1);
    }

    // ---- cut

    private static void cut() {
        Document part = Document.part("Promise 2");
        part.holds("Sets the width and height of a sign.", SentencesOfChangesTest::cutSetsBoth);
        part.holds("Undoable.", SentencesOfChangesTest::cutIsUndoable);
        part.holds("`sign`: 0 to 15", () -> accepted("cut # 6 1", 0, 15));
        part.holds("`width`: 1 to 6", () -> accepted("cut 0 # 2", 1, 2, 3, 4, 5, 6));
        part.holds("`height`: 1 to 6", () -> accepted("cut 0 2 #", 1, 2, 3, 4, 5, 6));
        part.holds("Returns the number of letters that are taken away", SentencesOfChangesTest::cutReturnsTaken);
        part.holds("(0 if neither is changed).", SentencesOfChangesTest::cutToTheSame);
        part.holds("Throws `IndexOutOfBoundsException` if there is no such sign",
                () -> refused("cut # 1 1", INDEX, -1, 16, Integer.MIN_VALUE, Integer.MAX_VALUE));
        part.holds("Throws `IllegalArgumentException` if width or height is out of range", () -> {
            refused("cut 0 # 1", ARGUMENT, 0, 7, -1, Integer.MIN_VALUE, Integer.MAX_VALUE);
            refused("cut 0 1 #", ARGUMENT, 0, 7, -1, Integer.MIN_VALUE, Integer.MAX_VALUE);
            refused("cut 0 7 #", ARGUMENT, 0, 1, 7);
        });
        part.end();
    }

    private static void accepted(String call, int... numbers) {
        for (int number : numbers) {
            String written = call.replace("#", Integer.toString(number));
            String answer = Check.answerOf(() -> Calls.answer(new TypeTrays(), written));
            Check.compare(written + " throws", "false", Boolean.toString(answer.startsWith("throws")));
        }
    }

    private static void refused(String call, Class<? extends RuntimeException> want, int... numbers) {
        for (int number : numbers) {
            Twin.refused(Calls.builder(LAID), call.replace("#", Integer.toString(number)), want);
        }
    }

    private static void cutSetsBoth() {
        TypeTrays trays = Calls.after("cut 3 1 6; cut 15 6 1");
        Calls.due(trays, "sign 3 0", 1);
        Calls.due(trays, "sign 3 1", 6);
        Calls.due(trays, "sign 15 0", 6);
        Calls.due(trays, "sign 15 1", 1);
        Calls.due(trays, "sign 4 0", 2);
        Calls.due(trays, "sign 14 1", 2);
    }

    private static void cutIsUndoable() {
        Twin.undone(Calls.builder(LAID), "cut 0 1 6");
        Twin.undone(Calls.builder(LAID), "cut 0 6 6");
        Twin.undone(Calls.builder(LAID), "cut 1 3 3");
        Twin.undone(TypeTrays::new, "cut 0 2 2");
    }

    private static void cutReturnsTaken() {
        Calls.due(new TypeTrays(), "cut 0 1 1", 0);
        Calls.due(Calls.after(LAID), "cut 1 1 1", 0);
        Calls.due(Calls.after(LAID), "cut 0 5 6", 2);
        Calls.due(Calls.after(LAID), "cut 0 6 5", 2);
        Calls.due(Calls.after(LAID + "; drop 0 3 1"), "cut 0 5 5", 1);
        Calls.due(Calls.after(LAID + "; drop 0 3 2"), "cut 0 5 5", 1);
        Calls.due(Calls.after(LAID + "; cut 0 5 5"), "cut 0 4 4", 0);
    }

    private static void cutToTheSame() {
        TypeTrays trays = Calls.after(LAID);
        Calls.due(trays, "cut 0 6 6", 0);
        Calls.due(trays, "sign 0 2", 1);
        Calls.due(trays, "sign 0 3", 1);
        Calls.due(trays, "whole 8", 0);
        Calls.due(new TypeTrays(), "cut 0 2 2", 0);
    }

    // ---- use

    private static void use() {
        Document part = Document.part("Promise 3");
        part.holds("Uses a letter.", SentencesOfChangesTest::useUsesItsLetterAlone);
        part.holds("Undoable.", SentencesOfChangesTest::useIsUndoable);
        part.holds("`sign`: 0 to 15", () -> accepted("use # 1 0", 0, 15));
        part.holds("`size`: 1 to 3", () -> accepted("use 0 # 0", 1, 2, 3));
        part.holds("`blur`: 0 to 2", () -> accepted("use 0 1 #", 0, 1, 2));
        part.holds("Returns 0 for a hit;", SentencesOfChangesTest::useReturns0ForAHit);
        part.holds("otherwise by which of the rules 1 to 4 it found its place.",
                SentencesOfChangesTest::useReturnsTheRule);
        part.holds("Throws `IndexOutOfBoundsException` if there is no such sign",
                () -> refused("use # 3 2", INDEX, -1, 16, Integer.MIN_VALUE, Integer.MAX_VALUE));
        part.holds("Throws `IllegalArgumentException` if size or blur is out of range", () -> {
            refused("use 0 # 2", ARGUMENT, 0, 4, -1, Integer.MIN_VALUE, Integer.MAX_VALUE);
            refused("use 0 3 #", ARGUMENT, -1, 3, Integer.MIN_VALUE, Integer.MAX_VALUE);
        });
        part.holds("Throws `IllegalStateException` if it cannot be used",
                SentencesOfChangesTest::useOfALetterThatCannotBeUsed);
        part.end();
    }

    private static void useUsesItsLetterAlone() {
        TypeTrays trays = Calls.after("use 15 3 2; use 15 3 1; use 15 2 2; use 14 3 2");
        int[][] letters = {{15, 3, 2}, {15, 3, 1}, {15, 2, 2}, {14, 3, 2}};
        for (int index = 0; index < letters.length; index++) {
            int[] letter = letters[index];
            Calls.due(trays, "letter " + letter[0] + " " + letter[1] + " " + letter[2] + " 5", index + 1);
        }
        Calls.due(trays, "letter 15 1 2 5", -1);
        Calls.due(trays, "letter 14 3 1 5", -1);
        Calls.due(trays, "whole 2", 3);
        Calls.due(trays, "whole 3", 1);
    }

    private static void useIsUndoable() {
        Twin.undone(Calls.builder(LAID), "use 0 3 2");
        Twin.undone(Calls.builder(LAID), "use 0 3 1");
        Twin.undone(Calls.builder(LAID), "use 0 2 2");
        Twin.undone(Calls.builder(LAID), "use 1 1 0");
        Twin.undone(TypeTrays::new, "use 0 1 0");
        Twin.undone(Calls.builder("cut 0 6 6; use 0 3 2; newLine"), "use 0 3 1");
    }

    private static void useReturns0ForAHit() {
        TypeTrays trays = Calls.after(LAID);
        Calls.due(trays, "use 0 3 2", 0);
        Calls.due(trays, "use 0 3 1", 0);
        Calls.make(trays, "newLine");
        Calls.due(trays, "use 0 3 2", 0);
        Calls.make(trays, "drop 0 3 2");
        Calls.due(trays, "use 0 3 2", 1);
    }

    private static void useReturnsTheRule() {
        TypeTrays trays = new TypeTrays();
        Calls.make(trays, Calls.cuts(4, 6, 6));
        Calls.due(trays, "use 0 3 2", 2);
        Calls.due(trays, "use 9 1 0", 1);
        Calls.due(trays, "use 1 3 2", 4);
        Calls.make(trays, "newLine");
        Calls.due(trays, "use 2 3 2", 3);
    }

    private static void useOfALetterThatCannotBeUsed() {
        Twin.refused(Calls.builder(FULL_STREET), "use 5 3 2", STATE);
        Twin.refused(Calls.builder(FULL_STREET + "newLine; " + Calls.forEach("use # 3 2", 4, 3, 2, 1, 0)),
                "use 5 3 0", STATE);
        TypeTrays trays = Calls.after(FULL_STREET);
        Calls.due(trays, "use 9 1 0", 1);
        Calls.due(trays, "use 1 3 2", 0);
    }

    // ---- drop

    private static void drop() {
        Document part = Document.part("Promise 4");
        part.holds("Takes a letter away.", SentencesOfChangesTest::dropTakesAway);
        part.holds("Undoable.", () -> {
            Twin.undone(Calls.builder(LAID), "drop 0 3 2");
            Twin.undone(Calls.builder(LAID), "drop 0 3 1");
        });
        part.holds("`sign`: 0 to 15", () -> {
            Calls.due(Calls.after("use 0 1 0"), "drop 0 1 0", 1);
            Calls.due(Calls.after("use 15 1 0"), "drop 15 1 0", 1);
        });
        part.holds("`size`: 1 to 3", () -> {
            Calls.due(Calls.after("use 0 1 0"), "drop 0 1 0", 1);
            Calls.due(Calls.after("use 0 3 0"), "drop 0 3 0", 1);
        });
        part.holds("`blur`: 0 to 2", () -> {
            Calls.due(Calls.after("use 0 3 0"), "drop 0 3 0", 1);
            Calls.due(Calls.after("use 0 3 2"), "drop 0 3 2", 1);
        });
        part.holds("Returns how often it was used since it was made, the use that made it counted.",
                SentencesOfChangesTest::dropReturnsUses);
        part.holds("Throws `IndexOutOfBoundsException` if there is no such sign",
                () -> refused("drop # 3 2", INDEX, -1, 16, Integer.MIN_VALUE, Integer.MAX_VALUE));
        part.holds("Throws `IllegalArgumentException` if size or blur is out of range", () -> {
            refused("drop 0 # 2", ARGUMENT, 0, 4, -1, Integer.MIN_VALUE, Integer.MAX_VALUE);
            refused("drop 0 3 #", ARGUMENT, -1, 3, Integer.MIN_VALUE, Integer.MAX_VALUE);
        });
        part.holds("Throws `IllegalStateException` if the letter is neither laid nor in the street",
                SentencesOfChangesTest::dropOfALetterThatIsNotThere);
        part.end();
    }

    private static void dropTakesAway() {
        TypeTrays trays = Calls.after(LAID);
        Calls.make(trays, "drop 0 3 2");
        Calls.due(trays, "letter 0 3 2 5", -1);
        Calls.due(trays, "at 0 0 0", -1);
        Calls.due(trays, "letter 0 3 1 5", 2);
        Calls.due(trays, "whole 8", 1);
        Calls.make(trays, "drop 0 3 1");
        Calls.due(trays, "street 0", -1);
        Calls.due(trays, "whole 8", 2);
        Calls.due(trays, "shelf 0 0 2", 0);
    }

    private static void dropReturnsUses() {
        Calls.due(Calls.after("use 0 1 0"), "drop 0 1 0", 1);
        Calls.due(Calls.after("use 0 1 0; use 0 1 0; newLine; use 0 1 0"), "drop 0 1 0", 3);
        Calls.due(Calls.after(LAID + "; use 0 3 1"), "drop 0 3 1", 2);
        Calls.due(Calls.after("use 0 1 0; use 0 1 0; drop 0 1 0; use 0 1 0"), "drop 0 1 0", 1);
        Calls.due(Calls.after("use 0 1 0; use 0 1 0; cut 0 1 1; use 0 1 0"), "drop 0 1 0", 1);
        Calls.due(Calls.after("use 0 1 0; use 0 1 0; undo"), "drop 0 1 0", 1);
    }

    private static void dropOfALetterThatIsNotThere() {
        Twin.refused(TypeTrays::new, "drop 0 1 0", STATE);
        Twin.refused(Calls.builder("use 0 1 0; drop 0 1 0"), "drop 0 1 0", STATE);
        Twin.refused(Calls.builder("use 0 1 0; cut 0 1 1"), "drop 0 1 0", STATE);
        Twin.refused(Calls.builder("use 0 1 0; undo"), "drop 0 1 0", STATE);
        Twin.refused(Calls.builder("use 0 1 0"), "drop 0 1 1", STATE);
        Twin.refused(Calls.builder("cut 0 6 6; use 0 3 2; newLine; use 0 3 1; use 0 3 0"), "drop 0 3 2", STATE);
        Twin.refused(Calls.builder(FULL_STREET + "newLine; use 0 3 2; use 5 3 2"), "drop 1 3 2", STATE);
    }

    // ---- newLine, addTray, closeShelves

    private static void newLine() {
        Document part = Document.part("Promise 5");
        part.holds("Begins the next line.", SentencesOfChangesTest::newLineBeginsTheNext);
        part.holds("Undoable.", () -> Twin.undone(Calls.builder(LAID), "newLine"));
        part.holds("Returns the number of letters that were of the line before.",
                SentencesOfChangesTest::newLineReturnsLetters);
        part.end();
    }

    private static void newLineBeginsTheNext() {
        TypeTrays trays = Calls.after("newLine; newLine");
        Calls.due(trays, "whole 4", 2);
        Calls.make(trays, "use 0 1 0; newLine; undo; undo; newLine");
        Calls.due(trays, "whole 4", 3);
        Calls.due(trays, "letter 0 1 0 6", -1);
    }

    private static void newLineReturnsLetters() {
        TypeTrays trays = Calls.after(LAID);
        Calls.due(new TypeTrays(), "newLine", 0);
        Calls.due(trays, "newLine", 2);
        Calls.due(trays, "newLine", 0);
        Calls.make(trays, "use 0 3 1");
        Calls.due(trays, "newLine", 1);
        Calls.make(trays, "use 0 3 1; use 0 3 1; use 1 1 0; drop 1 1 0");
        Calls.due(trays, "newLine", 1);
        Calls.due(Calls.after(FULL_STREET), "newLine", 5);
    }

    private static void addTray() {
        Document part = Document.part("Promise 6");
        part.holds("Adds a tray without shelves.", SentencesOfChangesTest::addedTrayHasNoShelves);
        part.holds("Undoable.", () -> {
            Twin.undone(Calls.builder("addTray"), "addTray");
            Twin.undone(Calls.builder(LAID), "addTray");
        });
        part.holds("Returns the number of the tray.", SentencesOfChangesTest::addTrayReturnsItsNumber);
        part.holds("Throws `IllegalStateException` if there are 3 trays", () -> {
            Twin.refused(Calls.builder("addTray; addTray"), "addTray", STATE);
            Twin.refused(Calls.builder("addTray; addTray; undo; addTray"), "addTray", STATE);
        });
        part.end();
    }

    private static void addedTrayHasNoShelves() {
        TypeTrays trays = Calls.after(LAID + "; addTray");
        for (int what = 0; what <= 3; what++) {
            Calls.due(trays, "tray 1 " + what, 0);
        }
        Calls.thrown(trays, "shelf 1 0 0", INDEX);
        Calls.due(trays, "whole 0", 2);
        Calls.due(trays, "whole 1", 1);
        TypeTrays again = Calls.after("cut 0 6 6; use 0 3 2; addTray; use 0 3 1; undo; undo; addTray");
        Calls.due(again, "tray 1 0", 0);
    }

    private static void addTrayReturnsItsNumber() {
        TypeTrays trays = new TypeTrays();
        Calls.due(trays, "addTray", 1);
        Calls.due(trays, "addTray", 2);
        Calls.make(trays, "undo; undo");
        Calls.due(trays, "addTray", 1);
    }

    private static void closeShelves() {
        Document part = Document.part("Promise 7");
        part.holds("Closes all shelves on which no letter is;", SentencesOfChangesTest::emptyShelvesAreClosed);
        part.holds("those below them move up, with their letters.", SentencesOfChangesTest::thoseBelowMoveUp);
        part.holds("Undoable.", () -> {
            Twin.undone(Calls.builder("use 0 1 0; use 0 2 0; drop 0 1 0"), "closeShelves");
            Twin.undone(Calls.builder("use 0 1 0; use 0 2 0"), "closeShelves");
        });
        part.holds("Returns the number of shelves that are closed.", SentencesOfChangesTest::closeShelvesReturns);
        part.end();
    }

    /** Three shelves of the heights 2, 3 and 5 in tray 0, with sign 0, 1 and 2; tray 1 has one of 18, with sign 3. */
    private static final String SHELVES = "addTray; cut 0 6 2; use 0 1 0; cut 1 6 3; use 1 1 0; cut 2 6 5; use 2 1 0; "
            + "cut 3 6 6; use 3 3 0; ";

    private static void emptyShelvesAreClosed() {
        TypeTrays trays = Calls.after(SHELVES + "drop 0 1 0; drop 1 1 0; drop 3 3 0; closeShelves");
        Calls.due(trays, "tray 0 0", 1);
        Calls.due(trays, "tray 0 1", 5);
        Calls.due(trays, "tray 1 0", 0);
        Calls.due(trays, "tray 1 1", 0);
        Calls.due(trays, "whole 0", 2);
        TypeTrays all = Calls.after(SHELVES + "drop 0 1 0; drop 1 1 0; drop 2 1 0; closeShelves");
        Calls.due(all, "tray 0 0", 0);
        Calls.due(all, "tray 1 0", 1);
        Calls.due(all, "letter 3 3 0 0", 1);
        Calls.due(all, "use 0 1 0", 1);
        Calls.due(all, "letter 0 1 0 0", 1);
        TypeTrays low = Calls.after("cut 0 1 1; use 0 1 0; drop 0 1 0; closeShelves");
        Calls.due(low, "tray 0 0", 0);
    }

    private static void thoseBelowMoveUp() {
        TypeTrays first = Calls.after(SHELVES + "drop 0 1 0; closeShelves");
        standsAt(first, 1, 0, 0);
        standsAt(first, 2, 1, 3);
        TypeTrays second = Calls.after(SHELVES + "drop 1 1 0; closeShelves");
        standsAt(second, 0, 0, 0);
        standsAt(second, 2, 1, 2);
        TypeTrays both = Calls.after(SHELVES + "drop 0 1 0; drop 1 1 0; closeShelves");
        standsAt(both, 2, 0, 0);
        Calls.due(both, "letter 3 3 0 2", 0);
        Calls.due(both, "letter 3 3 0 8", 0);
        Calls.due(both, "shelf 0 0 1", 5);
        TypeTrays last = Calls.after(SHELVES + "drop 2 1 0; closeShelves");
        standsAt(last, 0, 0, 0);
        standsAt(last, 1, 1, 2);
        Calls.due(last, "at 0 0 5", -1);
        Calls.thrown(last, "shelf 0 2 0", INDEX);
    }

    private static void standsAt(TypeTrays trays, int sign, int shelf, int top) {
        Calls.due(trays, "letter " + sign + " 1 0 0", 0);
        Calls.due(trays, "letter " + sign + " 1 0 1", 0);
        Calls.due(trays, "letter " + sign + " 1 0 2", top);
        Calls.due(trays, "letter " + sign + " 1 0 8", shelf);
        Calls.due(trays, "at 0 5 " + top, 100 * sign + 10);
        Calls.due(trays, "shelf 0 " + shelf + " 0", top);
        Calls.due(trays, "shelf 0 " + shelf + " 2", 1);
    }

    private static void closeShelvesReturns() {
        Calls.due(new TypeTrays(), "closeShelves", 0);
        Calls.due(Calls.after(SHELVES), "closeShelves", 0);
        Calls.due(Calls.after(SHELVES + "drop 1 1 0"), "closeShelves", 1);
        Calls.due(Calls.after(SHELVES + "drop 2 1 0; drop 3 3 0"), "closeShelves", 2);
        TypeTrays trays = Calls.after(SHELVES + "drop 0 1 0; drop 1 1 0; drop 2 1 0; drop 3 3 0");
        Calls.due(trays, "closeShelves", 4);
        Calls.due(trays, "closeShelves", 0);
    }
}
