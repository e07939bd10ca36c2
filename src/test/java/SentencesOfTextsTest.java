import java.util.function.Supplier;

/** The sentences of the document from 'Texts of commands' to 'Exceptions', each with a test of its own. */
public final class SentencesOfTextsTest {
    private static final Class<IndexOutOfBoundsException> INDEX = IndexOutOfBoundsException.class;
    private static final Class<IllegalArgumentException> ARGUMENT = IllegalArgumentException.class;
    private static final Class<IllegalStateException> STATE = IllegalStateException.class;
    private static final String FULL_STREET =
            Calls.cuts(6, 6, 6) + Calls.forEach("use # 3 2", 0, 1, 2, 3, 4);

    public static void main(String[] args) {
        formOfTexts();
        undo();
        exceptions();
        Check.end();
    }

    private static void formOfTexts() {
        Document part = Document.part("TEXTS OF COMMANDS");
        part.holds("The command text has at most 150 bytes.", SentencesOfTextsTest::atMost150Bytes);
        part.holds("It is a sequence of commands", SentencesOfTextsTest::sequences);
        part.holds("(perhaps none: a text that is empty, or has spaces alone, has no fault),",
                SentencesOfTextsTest::textsWithoutCommands);
        part.holds("each of which is a word of letters a to z,", SentencesOfTextsTest::lettersOfWords);
        part.holds("followed by its numbers,", SentencesOfTextsTest::countOfNumbers);
        part.holds("each of one or two digits (zeros in front are allowed; a third digit cannot stand)",
                SentencesOfTextsTest::oneOrTwoDigits);
        part.holds("and with at least one space (byte 32) in front,", SentencesOfTextsTest::spaceInFrontOfNumbers);
        part.holds("and a semicolon.", SentencesOfTextsTest::semicolons);
        part.holds("Spaces may also stand in front of a command, in front of a semicolon, and at the end.",
                SentencesOfTextsTest::placesOfSpaces);
        words(part);
        part.holds("The fault of a command text is the index of the first byte that cannot stand at its place,",
                SentencesOfTextsTest::firstByteThatCannotStand);
        part.holds("or the length of the text if it ends too soon.", SentencesOfTextsTest::textsThatEndTooSoon);
        part.holds("A word that is not one of these is at fault with its first byte,",
                SentencesOfTextsTest::otherWords);
        part.holds("found when the word is complete: when a byte that is none of a to z,",
                SentencesOfTextsTest::wordsThatAByteEnds);
        part.holds("or the end of the text, follows it.", SentencesOfTextsTest::wordsThatTheTextEnds);
        part.holds("(That a number is out of its range is no fault.)", SentencesOfTextsTest::numbersOutOfRange);
        runs(part);
        part.end();
    }

    private static void words(Document part) {
        part.holds("The words are: cut s w h (cut(s, w, h)),", () -> sameAsCall("cut 3 1 6;", "cut 3 1 6"));
        part.holds("use s z b (use(s, z, b)),", () -> sameAsCall("use 15 3 2;", "use 15 3 2"));
        part.holds("drop s z b (drop(s, z, b)),", () -> sameAsCall("drop 0 2 1;", "drop 0 2 1"));
        part.holds("line (newLine()),", () -> sameAsCall("line;", "newLine"));
        part.holds("tray (addTray()),", () -> sameAsCall("tray;", "addTray"));
        part.holds("close (closeShelves()).", () -> sameAsCall("close;", "closeShelves"));
    }

    private static void runs(Document part) {
        part.holds("To run a command text means: if it has a fault, nothing is done;",
                SentencesOfTextsTest::nothingIsDoneWithAFault);
        part.holds("otherwise the commands are carried out in their order,", SentencesOfTextsTest::order);
        part.holds("until one of them would throw an exception,", SentencesOfTextsTest::untilOneWouldThrow);
        part.holds("which is not thrown;", SentencesOfTextsTest::noneIsThrown);
        part.holds("those before it stay done,", SentencesOfTextsTest::thoseBeforeStayDone);
        part.holds("and they alone count.", SentencesOfTextsTest::theyAloneCount);
        part.holds("A run saves one state, the one from before it;", SentencesOfTextsTest::oneStateOfARun);
        part.holds("its commands save none.", SentencesOfTextsTest::commandsSaveNone);
    }

    private static void undo() {
        Document part = Document.part("UNDO");
        part.holds("Every method that is marked \"undoable\" saves the whole state",
                SentencesOfTextsTest::wholeStateIsSaved);
        part.holds("but the command text on an undo stack", SentencesOfTextsTest::textIsNotSaved);
        part.holds("when it ends normally,", SentencesOfTextsTest::refusedCallsSaveNothing);
        part.holds("also if it changes nothing.", SentencesOfTextsTest::callsThatChangeNothingSave);
        part.holds("The saved state is the one from before the call.", SentencesOfTextsTest::stateFromBeforeTheCall);
        part.holds("The stack keeps the latest 4 saved states", SentencesOfTextsTest::fourStatesAreKept);
        part.holds("and drops older ones.", SentencesOfTextsTest::olderStatesAreDropped);
        part.end();
    }

    private static void exceptions() {
        Document part = Document.part("EXCEPTIONS");
        part.holds("A call that throws an exception changes nothing.", SentencesOfTextsTest::refusedCalls);
        part.holds("If several exceptions of a method apply, the one that is listed first is thrown.",
                SentencesOfTextsTest::firstListedException);
        part.holds("NONE is returned only if no exception applies.", SentencesOfTextsTest::noneOnlyWithoutException);
        part.holds("The constants: `NONE = -1`: Returned where there is no such value.",
                SentencesOfTextsTest::constantNone);
        part.asksNothing("Ahead of the calls `cut`, `use`, `drop`, `newLine`, `addTray`, `closeShelves` the interface "
                + "says: ---- signs and letters.");
        part.holds("Ahead of the calls `letter`, `sign`, `tray`, `shelf`, `at`, `street`, `whole` the interface says: "
                + "---- values.", SentencesOfTextsTest::valuesChangeNothing);
        part.holds("Ahead of the calls `rule`, `takenBy`, `costOf`, `oldest`, `greatestGap` the interface says: "
                + "---- what if, which changes nothing.", SentencesOfTextsTest::questionsChangeNothing);
        part.asksNothing("Ahead of the calls `type`, `clearCommands`, `runCommands`, `undo`, `digest` the interface "
                + "says: ---- command text, undo and checksum.");
        part.end();
    }

    // ---- helpers

    private static TypeTrays typed(String calls, String text) {
        TypeTrays trays = Calls.after(calls);
        Check.type(trays, text);
        return trays;
    }

    private static void runGives(String text, int due) {
        Check.due("run of '" + text + "'", due, typed("", text)::runCommands);
    }

    private static void faultAt(String text, int fault) {
        runGives(text, -10 - fault);
    }

    /**
     * Sign 0 has a letter on a shelf and two in the street, and one shelf is without letters; one state is saved, and
     * the line is the second.
     */
    private static TypeTrays busy() {
        TypeTrays trays = typed("", "cut 0 6 6;use 0 3 2;use 0 3 1;use 1 1 0;line;use 0 3 2;use 0 2 1;use 2 1 0;"
                + "drop 2 1 0;tray;");
        trays.runCommands();
        trays.clearCommands();
        return trays;
    }

    private static void sameAsCall(String text, String call) {
        TypeTrays run = busy();
        Check.type(run, text);
        Check.due("run of " + text, 1, run::runCommands);
        run.clearCommands();
        TypeTrays called = busy();
        Calls.answer(called, call);
        Check.due("digest after '" + text + "'", called.digest(), run::digest);
    }

    // ---- texts of commands

    private static void atMost150Bytes() {
        TypeTrays trays = new TypeTrays();
        for (int length = 1; length <= 150; length++) {
            char c = "line;".charAt((length - 1) % 5);
            Check.due("type '" + c + "'", length, () -> trays.type(c));
        }
        Calls.thrown(trays, "type 32", STATE);
        Calls.due(trays, "whole 12", 150);
        Calls.due(trays, "runCommands", 30);
    }

    private static void sequences() {
        runGives("line;", 1);
        runGives("line;tray;", 2);
        runGives("line;line;close;line;", 4);
        faultAt("line;line", 9);
    }

    private static void textsWithoutCommands() {
        runGives("", 0);
        runGives(" ", 0);
        runGives(" ".repeat(150), 0);
        TypeTrays trays = new TypeTrays();
        Calls.due(trays, "runCommands", 0);
        Calls.due(trays, "undo", 0);
        faultAt("\t", 0);
        faultAt("  \u0000", 2);
    }

    private static void lettersOfWords() {
        faultAt("Line;", 0);
        faultAt("`", 0);
        faultAt("{", 0);
        faultAt("a", 0);
        faultAt("z;", 0);
        faultAt("liNe;", 0);
        faultAt("lineX;", 4);
        faultAt("lineA;", 4);
        faultAt("line`;", 4);
        faultAt("line{;", 4);
        faultAt("7 1;", 0);
        faultAt("line;Tray;", 5);
    }

    private static void countOfNumbers() {
        for (String word : new String[] {"cut", "use", "drop"}) {
            runGives(word + " 16 1 1;", 0);
            faultAt(word + ";", word.length());
            faultAt(word + " ;", word.length() + 1);
            faultAt(word + " 1;", word.length() + 2);
            faultAt(word + " 1 ;", word.length() + 3);
            faultAt(word + " 1 1 ;", word.length() + 5);
            faultAt(word + " 1 1;", word.length() + 4);
            faultAt(word + " 1 1 1 1;", word.length() + 7);
        }
        for (String word : new String[] {"line", "tray", "close"}) {
            runGives(word + ";", 1);
            faultAt(word + " 1;", word.length() + 1);
        }
    }

    private static void oneOrTwoDigits() {
        runGives("use 0 1 0;", 1);
        runGives("use 00 01 00;", 1);
        runGives("use 15 03 02;", 1);
        faultAt("use 000 1 0;", 6);
        faultAt("use 015 1 0;", 6);
        faultAt("use 0 001 0;", 8);
        faultAt("use 0 1 000;", 10);
        faultAt("use  1 0;", 8);
        faultAt("use / 1 0;", 4);
        faultAt("use : 1 0;", 4);
        faultAt("use 1: 1 0;", 5);
        TypeTrays trays = typed("", "cut 09 05 06;");
        trays.runCommands();
        Calls.due(trays, "sign 9 0", 5);
        Calls.due(trays, "sign 9 1", 6);
    }

    private static void spaceInFrontOfNumbers() {
        runGives("use   0  1    0;", 1);
        faultAt("use0 1 0;", 3);
        faultAt("use\t0 1 0;", 3);
        faultAt("use 0\t1 0;", 5);
        faultAt("use 0 1\u001f0;", 7);
        faultAt("use 0 1!0;", 7);
        faultAt("use \t0 1 0;", 4);
    }

    private static void semicolons() {
        faultAt("line", 4);
        faultAt("line tray;", 5);
        faultAt("line:", 4);
        faultAt("line<", 4);
        faultAt("use 0 1 0", 9);
        faultAt("use 0 1 0 use 0 1 0;", 10);
        faultAt(";", 0);
        faultAt("line;;", 5);
    }

    private static void placesOfSpaces() {
        runGives("  line;", 1);
        runGives("line  ;", 1);
        runGives("line;  ", 1);
        runGives("  line  ;  tray  ;  ", 2);
        runGives("use 0 1 0  ;", 1);
        runGives("line; line;", 2);
        faultAt("li ne;", 0);
        faultAt("use 1 5 1 0;", 10);
    }

    private static void firstByteThatCannotStand() {
        faultAt("!", 0);
        faultAt("line;line!line!", 9);
        faultAt("use 1 1 1;use 1 x 1;;", 16);
        faultAt("line;-", 5);
        faultAt("use -1 1 0;", 4);
        faultAt("line\u007f;", 4);
        faultAt("line;\u0000", 5);
        TypeTrays trays = typed("", "line;".repeat(29) + "line!");
        Check.due("a fault in the last byte", -159, trays::runCommands);
    }

    private static void textsThatEndTooSoon() {
        faultAt("use", 3);
        faultAt("use ", 4);
        faultAt("use 1", 5);
        faultAt("use 1 ", 6);
        faultAt("use 1 1", 7);
        faultAt("use 1 1 ", 8);
        faultAt("use 1 1 1", 9);
        faultAt("use 1 1 1 ", 10);
        faultAt("line", 4);
        faultAt("line ", 5);
        faultAt("line;close", 10);
        faultAt("line;".repeat(29) + "line ", 150);
    }

    private static void otherWords() {
        faultAt("lines;", 0);
        faultAt("lin;", 0);
        faultAt("uses 1 1 1;", 0);
        faultAt("us 1 1 1;", 0);
        faultAt("newline;", 0);
        faultAt("cuse 1 1 1;", 0);
        faultAt("  line;  trays;", 9);
        faultAt("a;", 0);
        faultAt("linea;", 0);
        faultAt("linez;", 0);
        faultAt("mine;", 0);
        faultAt("lint;", 0);
        faultAt("ose 1 1 1;", 0);
        faultAt("clone;", 0);
    }

    private static void wordsThatAByteEnds() {
        faultAt("lin e;", 0);
        faultAt("lin5;", 0);
        faultAt("lin!;", 0);
        faultAt("linE;", 0);
        faultAt("lin{", 0);
        faultAt("line;xx;!", 5);
        faultAt("line!", 4);
    }

    private static void wordsThatTheTextEnds() {
        faultAt("lin", 0);
        faultAt("x", 0);
        faultAt("line;linee", 5);
        faultAt("a".repeat(150), 0);
        faultAt(" ".repeat(149) + "l", 149);
        faultAt("line;" + " ".repeat(141) + "line", 150);
    }

    private static void numbersOutOfRange() {
        runGives("use 16 1 0;", 0);
        runGives("use 0 0 0;", 0);
        runGives("use 0 4 0;", 0);
        runGives("use 0 1 3;", 0);
        runGives("cut 99 99 99;", 0);
        runGives("cut 0 0 7;", 0);
        runGives("line;drop 99 0 0;line;", 1);
    }

    private static void nothingIsDoneWithAFault() {
        TypeTrays trays = typed("newLine", "line;tray;use 0 1 0;cut 0 1 1;x");
        long before = trays.digest();
        Check.due("run", -10 - 30, trays::runCommands);
        Check.due("digest", before, trays::digest);
        Twin.changesNothing(() -> typed("newLine; use 1 1 0", "line;drop 1 1 0;line"), "runCommands");
    }

    private static void order() {
        TypeTrays trays = typed("", "use 0 1 0;line;cut 0 3 3;use 0 1 0;line;use 1 1 0;tray;use 0 1 0;");
        Calls.due(trays, "runCommands", 8);
        TypeTrays called = Calls.after("use 0 1 0; newLine; cut 0 3 3; use 0 1 0; newLine; use 1 1 0; addTray; "
                + "use 0 1 0");
        for (int what = 0; what <= 8; what++) {
            String value = "letter 0 1 0 " + what;
            Calls.due(trays, value, Calls.answer(called, value));
        }
        Calls.due(trays, "whole 8", 1);
        TypeTrays numbersLast = typed("", "line;".repeat(28) + "cut 9 5 6;");
        Calls.due(numbersLast, "runCommands", 29);
        Calls.due(numbersLast, "sign 9 0", 5);
        Calls.due(numbersLast, "sign 9 1", 6);
        TypeTrays mostNumbers = typed("", "use 0 1 0;".repeat(14) + "use 1 2 2;");
        Calls.due(mostNumbers, "runCommands", 15);
        Calls.due(mostNumbers, "letter 0 1 0 7", 14);
        Calls.due(mostNumbers, "letter 1 2 2 5", 15);
    }

    private static void untilOneWouldThrow() {
        TypeTrays range = typed("", "line;cut 0 7 1;line;");
        Calls.due(range, "runCommands", 1);
        Calls.due(range, "whole 4", 1);
        TypeTrays absent = typed("", "line;drop 0 1 0;line;");
        Calls.due(absent, "runCommands", 1);
        Calls.due(absent, "whole 4", 1);
        TypeTrays fourth = typed("", "tray;tray;tray;line;");
        Calls.due(fourth, "runCommands", 2);
        Calls.due(fourth, "whole 4", 0);
        TypeTrays full = typed(FULL_STREET, "use 0 3 2;use 5 3 2;line;");
        Calls.due(full, "runCommands", 1);
        Calls.due(full, "whole 4", 0);
    }

    private static void noneIsThrown() {
        for (String command : new String[] {"cut 16 1 1;", "use 0 0 0;", "use 99 1 0;", "drop 0 1 0;", "drop 0 9 0;"}) {
            runGives(command, 0);
        }
        Calls.due(typed("addTray; addTray", "tray;"), "runCommands", 0);
        Calls.due(typed(FULL_STREET, "use 5 3 2;"), "runCommands", 0);
    }

    private static void thoseBeforeStayDone() {
        TypeTrays trays = typed("", "cut 0 3 4;use 0 1 0;tray;drop 5 1 0;line;");
        trays.runCommands();
        Calls.due(trays, "letter 0 1 0 4", 4);
        Calls.due(trays, "letter 0 1 0 5", 1);
        Calls.due(trays, "whole 0", 2);
        Calls.due(trays, "whole 4", 0);
    }

    private static void theyAloneCount() {
        runGives("drop 5 1 0;line;line;", 0);
        runGives("line;drop 5 1 0;line;", 1);
        runGives("line;line;drop 5 1 0;", 2);
        runGives("line;line;line;", 3);
    }

    private static void oneStateOfARun() {
        TypeTrays trays = typed("use 0 1 0", "line;tray;use 0 1 0;drop 0 1 0;line;close;");
        long before = trays.digest();
        Calls.due(trays, "runCommands", 6);
        Calls.due(trays, "undo", 1);
        Check.due("digest", before, trays::digest);
        TypeTrays stopped = typed("use 0 1 0", "line;drop 9 1 0;");
        Calls.due(stopped, "runCommands", 1);
        Calls.due(stopped, "undo", 1);
        Calls.due(stopped, "whole 4", 0);
    }

    private static void commandsSaveNone() {
        TypeTrays trays = typed("newLine; newLine", "line;line;line;line;line;line;");
        Calls.due(trays, "runCommands", 6);
        Calls.due(trays, "undo", 2);
        Calls.due(trays, "whole 4", 2);
        Calls.due(trays, "undo", 1);
        Calls.due(trays, "whole 4", 1);
        Calls.due(trays, "undo", 0);
        Calls.thrown(trays, "undo", STATE);
    }

    // ---- undo

    private static void wholeStateIsSaved() {
        Supplier<TypeTrays> build = SentencesOfTextsTest::busy;
        Twin.undone(build, "cut 0 1 1");
        Twin.undone(build, "use 0 3 2");
        Twin.undone(build, "use 0 3 1");
        Twin.undone(build, "use 9 3 2");
        Twin.undone(build, "drop 0 3 2");
        Twin.undone(build, "drop 0 3 1");
        Twin.undone(build, "newLine");
        Twin.undone(build, "addTray");
        Twin.undone(Calls.builder("use 0 1 0; use 0 2 0; drop 0 1 0"), "closeShelves");
        Twin.undone(() -> typed("use 0 1 0", "cut 0 1 1;use 1 3 1;line;tray;close;"), "runCommands");
        Twin.undone(Calls.builder("cut 0 6 6; use 0 3 2; newLine"), "use 3 3 2");
        Twin.undone(() -> {
            TypeTrays trays = typed("", "cut 0 6 5;cut 1 6 6;use 0 3 2;use 1 3 0;use 1 3 1;use 1 3 2;use 1 2 1;line;");
            Calls.make(trays, "runCommands; use 0 3 2");
            return trays;
        }, "use 1 2 2");
    }

    private static void textIsNotSaved() {
        TypeTrays trays = typed("newLine", "line;");
        Calls.due(trays, "undo", 0);
        Calls.due(trays, "whole 12", 5);
        Calls.due(trays, "runCommands", 1);
        Calls.due(trays, "clearCommands", 5);
        Calls.due(trays, "undo", 0);
        Calls.due(trays, "whole 12", 0);
    }

    private static void refusedCallsSaveNothing() {
        TypeTrays trays = Calls.after(FULL_STREET + "undo; undo; use 3 3 2; use 4 3 2");
        Check.type(trays, "line");
        Calls.thrown(trays, "cut 0 0 1", ARGUMENT);
        Calls.thrown(trays, "use 5 3 2", STATE);
        Calls.thrown(trays, "use 16 3 2", INDEX);
        Calls.thrown(trays, "drop 5 3 2", STATE);
        Calls.due(trays, "runCommands", -14);
        Calls.due(trays, "undo", 3);
        Calls.due(trays, "letter 4 3 2 5", -1);
        Calls.due(trays, "letter 3 3 2 5", 4);
        TypeTrays three = Calls.after("addTray; addTray");
        Calls.thrown(three, "addTray", STATE);
        Calls.due(three, "undo", 1);
        Calls.due(three, "whole 0", 2);
    }

    private static void callsThatChangeNothingSave() {
        TypeTrays trays = new TypeTrays();
        Calls.make(trays, "cut 0 2 2; closeShelves; runCommands");
        Check.type(trays, "drop 0 1 0;");
        Calls.make(trays, "runCommands");
        for (int left = 3; left >= 0; left--) {
            Calls.due(trays, "undo", left);
        }
        Calls.thrown(trays, "undo", STATE);
    }

    private static void stateFromBeforeTheCall() {
        TypeTrays trays = Calls.after("use 0 1 0; newLine; use 0 1 0; drop 0 1 0");
        Calls.make(trays, "undo");
        Calls.due(trays, "letter 0 1 0 7", 2);
        Calls.make(trays, "undo");
        Calls.due(trays, "letter 0 1 0 7", 1);
        Calls.due(trays, "whole 4", 1);
        Calls.make(trays, "undo");
        Calls.due(trays, "whole 4", 0);
        Calls.due(trays, "letter 0 1 0 5", 1);
        Calls.make(trays, "undo");
        Calls.due(trays, "letter 0 1 0 5", -1);
        Calls.due(trays, "whole 1", 0);
    }

    private static void fourStatesAreKept() {
        TypeTrays trays = Calls.after("newLine; newLine; newLine; newLine");
        for (int left = 3; left >= 0; left--) {
            Calls.due(trays, "undo", left);
            Calls.due(trays, "whole 4", left);
        }
        TypeTrays around = Calls.after("newLine; newLine; newLine; newLine; newLine; newLine; undo; undo; "
                + "use 0 1 0; use 0 1 0; use 0 1 0");
        int[] clocks = {2, 1, 0, 0};
        int[] lines = {4, 4, 4, 3};
        for (int index = 0; index < 4; index++) {
            Calls.due(around, "undo", 3 - index);
            Calls.due(around, "whole 5", clocks[index]);
            Calls.due(around, "whole 4", lines[index]);
        }
    }

    private static void olderStatesAreDropped() {
        TypeTrays trays = Calls.after("newLine; newLine; newLine; newLine; newLine");
        for (int left = 3; left >= 0; left--) {
            Calls.due(trays, "undo", left);
        }
        Calls.thrown(trays, "undo", STATE);
        Calls.due(trays, "whole 4", 1);
    }

    // ---- exceptions

    /** The call, and which of the exceptions is due: 1 IndexOutOfBounds-, 2 IllegalArgument-, 3 IllegalState-. */
    private static final String[] REFUSED = {
        "cut -1 2 2=1", "cut 16 2 2=1", "cut 0 0 2=2", "cut 0 7 2=2", "cut 0 2 0=2", "cut 0 2 7=2",
        "use -1 1 0=1", "use 16 1 0=1", "use 0 0 0=2", "use 0 4 0=2", "use 0 1 -1=2", "use 0 1 3=2", "use 5 3 2=3",
        "drop -1 1 0=1", "drop 16 1 0=1", "drop 0 0 0=2", "drop 0 4 0=2", "drop 0 1 -1=2", "drop 0 1 3=2",
        "drop 5 3 2=3", "addTray=3",
        "letter -1 1 0 0=1", "letter 16 1 0 0=1", "letter 0 0 0 0=2", "letter 0 4 0 0=2", "letter 0 1 -1 0=2",
        "letter 0 1 3 0=2", "letter 0 1 0 -1=2", "letter 0 1 0 9=2",
        "sign -1 0=1", "sign 16 0=1", "sign 0 -1=2", "sign 0 4=2",
        "tray -1 0=1", "tray 3 0=1", "tray 0 -1=2", "tray 0 4=2",
        "shelf -1 0 0=1", "shelf 3 0 0=1", "shelf 0 -1 0=1", "shelf 0 1 0=1", "shelf 0 0 -1=2", "shelf 0 0 7=2",
        "at -1 0 0=1", "at 3 0 0=1", "at 0 -1 0=2", "at 0 24 0=2", "at 0 0 -1=2", "at 0 0 24=2",
        "street -1=2", "whole -1=2", "whole 13=2",
        "rule -1 1 0=1", "rule 16 1 0=1", "rule 0 0 0=2", "rule 0 4 0=2", "rule 0 1 -1=2", "rule 0 1 3=2",
        "takenBy -1 1 0=1", "takenBy 16 1 0=1", "takenBy 0 0 0=2", "takenBy 0 4 0=2", "takenBy 0 1 -1=2",
        "takenBy 0 1 3=2",
        "costOf -1 1 0=1", "costOf 16 1 0=1", "costOf 0 0 0=2", "costOf 0 4 0=2", "costOf 0 1 -1=2", "costOf 0 1 3=2",
        "type -1=2", "type 128=2",
    };

    private static Class<? extends RuntimeException> exception(char number) {
        return number == '1' ? INDEX : number == '2' ? ARGUMENT : STATE;
    }

    /** All three trays are full of letters of the line, and so is the street; four states are saved. */
    private static TypeTrays full() {
        TypeTrays trays = Calls.after("addTray; addTray; " + Calls.cuts(8, 6, 6)
                + Calls.forEach("use # 3 2", 0, 1, 2, 3, 4, 6, 7));
        Check.type(trays, "line;drop 0 3 2;");
        return trays;
    }

    private static void refusedCalls() {
        for (String refused : REFUSED) {
            int split = refused.indexOf('=');
            Twin.refused(SentencesOfTextsTest::full, refused.substring(0, split), exception(refused.charAt(split + 1)));
        }
        Twin.refused(TypeTrays::new, "undo", STATE);
        Twin.refused(Calls.builder("newLine; undo"), "undo", STATE);
        Twin.refused(() -> typed("newLine", "line;".repeat(30)), "type 59", STATE);
        extremes();
    }

    private static void extremes() {
        String[] calls = {"cut # 1 1", "cut 0 # 1", "cut 0 1 #", "use # 1 1", "use 0 # 1", "use 0 1 #", "drop # 1 1",
            "drop 0 # 1", "drop 0 1 #", "letter # 1 1 1", "letter 0 # 1 1", "letter 0 1 # 1", "letter 0 1 1 #",
            "sign # 1", "sign 0 #", "tray # 0", "tray 0 #", "shelf # 0 0", "shelf 0 # 0", "shelf 0 0 #", "at # 0 0",
            "at 0 # 0", "at 0 0 #", "whole #", "rule # 1 1", "rule 0 # 1", "rule 0 1 #", "takenBy # 1 1",
            "takenBy 0 # 1", "takenBy 0 1 #", "costOf # 1 1", "costOf 0 # 1", "costOf 0 1 #", "type #"};
        for (String call : calls) {
            String first = call.split(" ")[1];
            boolean isIndex = first.equals("#") && !call.startsWith("whole") && !call.startsWith("type")
                    || call.equals("shelf 0 # 0");
            for (int number : new int[] {Integer.MIN_VALUE, Integer.MAX_VALUE, -1000, 1000}) {
                Twin.refused(Calls.builder("use 0 1 0"), call.replace("#", "" + number), isIndex ? INDEX : ARGUMENT);
            }
        }
        Twin.refused(Calls.builder("use 0 1 0"), "street " + Integer.MIN_VALUE, ARGUMENT);
    }

    private static void firstListedException() {
        String[] index = {"cut 16 0 0", "cut -1 7 7", "use 16 0 0", "use -1 1 3", "drop 16 4 0", "drop -1 1 -1",
            "letter 16 0 0 0", "letter -1 1 3 0", "letter 16 1 0 9", "sign 16 4", "sign -1 -1", "tray 1 4", "tray -1 -1",
            "shelf 1 0 7", "shelf 0 1 7", "shelf -1 -1 -1", "at 1 24 0", "at -1 0 24", "rule 16 0 0", "rule -1 1 3",
            "takenBy 16 0 0", "takenBy -1 1 3", "costOf 16 0 0", "costOf -1 1 3"};
        for (String call : index) {
            Calls.thrown(Calls.after("use 0 1 0"), call, INDEX);
        }
        Calls.thrown(Calls.after(FULL_STREET), "use 16 3 2", INDEX);
        Calls.thrown(Calls.after(FULL_STREET), "use 5 4 2", ARGUMENT);
        Calls.thrown(Calls.after(FULL_STREET), "use 5 3 3", ARGUMENT);
        Calls.thrown(new TypeTrays(), "drop 16 1 0", INDEX);
        Calls.thrown(new TypeTrays(), "drop 0 0 0", ARGUMENT);
        Calls.thrown(typed("", " ".repeat(150)), "type 128", ARGUMENT);
        Calls.thrown(typed("", " ".repeat(150)), "type -1", ARGUMENT);
        Calls.thrown(typed("", " ".repeat(150)), "type 127", STATE);
    }

    private static void noneOnlyWithoutException() {
        TypeTrays trays = Calls.after(FULL_STREET);
        Calls.due(trays, "letter 9 1 0 0", -1);
        Calls.thrown(trays, "letter 9 1 0 9", ARGUMENT);
        Calls.thrown(trays, "letter 9 4 0 0", ARGUMENT);
        Calls.due(trays, "at 0 23 23", -1);
        Calls.thrown(trays, "at 0 24 23", ARGUMENT);
        Calls.thrown(trays, "at 1 23 23", INDEX);
        Calls.due(trays, "street 4", -1);
        Calls.thrown(trays, "street -1", ARGUMENT);
        for (String question : new String[] {"rule", "takenBy", "costOf"}) {
            Calls.due(trays, question + " 5 3 2", -1);
            Calls.thrown(trays, question + " 5 3 3", ARGUMENT);
            Calls.thrown(trays, question + " 16 3 2", INDEX);
        }
        Calls.make(trays, "drop 0 3 2");
        Calls.due(trays, "shelf 0 0 5", -1);
        Calls.thrown(trays, "shelf 0 1 5", INDEX);
    }

    private static void constantNone() {
        Check.due("NONE", -1, () -> TypeTrays.NONE);
    }

    private static void valuesChangeNothing() {
        String[] calls = {"letter 0 3 2 #", "letter 9 1 0 #", "sign 0 #", "tray 0 #", "shelf 0 0 #", "at 0 # 0",
            "street #", "whole #"};
        int[] greatest = {8, 8, 3, 3, 6, 23, 4, 12};
        for (int index = 0; index < calls.length; index++) {
            for (int number = 0; number <= greatest[index]; number++) {
                Twin.changesNothing(SentencesOfTextsTest::full, calls[index].replace("#", "" + number));
            }
        }
        Twin.changesNothing(SentencesOfTextsTest::full, "digest");
    }

    /** The questions about letters that would be a hit, take letters away, or find no place. */
    private static void questionsChangeNothing() {
        for (String question : new String[] {"rule", "takenBy", "costOf"}) {
            Twin.changesNothing(SentencesOfTextsTest::full, question + " 0 3 2");
            Twin.changesNothing(SentencesOfTextsTest::full, question + " 5 3 2");
            Twin.changesNothing(TypeTrays::new, question + " 5 3 2");
            Twin.changesNothing(Calls.builder("use 0 1 0"), question + " 1 1 0");
            Twin.changesNothing(Calls.builder(FULL_STREET + "newLine"), question + " 5 3 2");
            Twin.changesNothing(Calls.builder(FULL_STREET + "newLine; use 0 3 2"), question + " 5 3 2");
        }
        Twin.changesNothing(SentencesOfTextsTest::full, "oldest");
        Twin.changesNothing(SentencesOfTextsTest::full, "greatestGap");
    }
}
