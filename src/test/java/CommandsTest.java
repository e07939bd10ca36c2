/** Promises 20 to 22: type, clearCommands, runCommands. */
public final class CommandsTest {
    private static final Class<IllegalArgumentException> ARGUMENT = IllegalArgumentException.class;
    private static final Class<IllegalStateException> STATE = IllegalStateException.class;

    public static void main(String[] args) {
        promise20Type();
        promise21ClearCommands();
        promise22Faults();
        promise22Texts();
        promise22LongTexts();
        promise22Effects();
        promise22StopsAtTheFirstThatThrows();
        promise22SavesOneState();
        Check.end();
    }

    private static void promise20Type() {
        TypeTrays trays = new TypeTrays();
        Check.thrown("type -1", ARGUMENT, () -> trays.type(-1));
        Check.thrown("type 128", ARGUMENT, () -> trays.type(128));
        Check.due("type 0", 1, () -> trays.type(0));
        Check.due("type 127", 2, () -> trays.type(127));
        for (int length = 3; length <= 150; length++) {
            int due = length;
            Check.due("type", due, () -> trays.type(' '));
        }
        Check.thrown("type at 150", STATE, () -> trays.type(' '));
        Check.thrown("type 128 at 150", ARGUMENT, () -> trays.type(128));
        Check.due("length", 150, () -> trays.whole(12));
        Check.thrown("type is not undoable", STATE, trays::undo);
    }

    private static void promise21ClearCommands() {
        TypeTrays trays = new TypeTrays();
        Check.due("clear of nothing", 0, trays::clearCommands);
        Check.type(trays, "line;");
        Check.due("clear", 5, trays::clearCommands);
        Check.due("length", 0, () -> trays.whole(12));
        Check.due("the text is empty", 0, trays::runCommands);
        Check.due("line", 0, () -> trays.whole(4));
        Check.due("type begins anew", 1, () -> trays.type('x'));
        Check.due("only the run was undoable", 0, trays::undo);
        Check.due("undo leaves the text", 1, () -> trays.whole(12));
    }

    private static void faultAt(String text, int fault) {
        TypeTrays trays = new TypeTrays();
        Check.type(trays, text);
        long before = trays.digest();
        Check.due("run of '" + text + "'", -10 - fault, trays::runCommands);
        Check.due("a run with a fault changes nothing", before, trays::digest);
    }

    private static void runs(String text, int commands) {
        TypeTrays trays = new TypeTrays();
        Check.type(trays, text);
        Check.due("run of '" + text + "'", commands, trays::runCommands);
        Check.due("the text stays", text.length(), () -> trays.whole(12));
    }

    private static void promise22Faults() {
        faultAt(";", 0);
        faultAt("  ;", 2);
        faultAt("5", 0);
        faultAt("Line;", 0);
        faultAt("u", 0);
        faultAt(" us", 1);
        faultAt("use", 3);
        faultAt("use ", 4);
        faultAt("use;", 3);
        faultAt("use ;", 4);
        faultAt("use1 1 0;", 3);
        faultAt("used 1 1 0;", 0);
        faultAt("lines;", 0);
        faultAt("xyz 1", 0);
        faultAt("usez 1 1 0;", 0);
        faultAt("ause 1 1 0;", 0);
        faultAt("line;linea;", 5);
        faultAt("line; trai;", 6);
        faultAt("line;tray;closed", 10);
        faultAt("line;tray;close", 15);
        faultAt("line 1;", 5);
        faultAt("line1;", 4);
        faultAt("line", 4);
        faultAt("line  ", 6);
        faultAt("line;;", 5);
        faultAt("lineline;", 0);
        faultAt("use 1 1;", 7);
        faultAt("use 1 1 ;", 8);
        faultAt("use 1 1 0", 9);
        faultAt("use 1 1 0  ", 11);
        faultAt("use 1 1 0 0;", 10);
        faultAt("use 100 1 0;", 6);
        faultAt("use 1 000 0;", 8);
        faultAt("use 1 1 000;", 10);
        faultAt("use -1 1 0;", 4);
        faultAt("use 1,1 0;", 5);
        faultAt("use 1 1 0x;", 9);
        faultAt("use 1 1 a;", 8);
        faultAt("use\t1 1 0;", 3);
        faultAt("line;\n", 5);
        faultAt("line\u0000;", 4);
        faultAt("line{", 4);
        faultAt("lin`", 0);
        faultAt("use 0 1 0; use 0 1 0; drop 0 1", 30);
    }

    private static void promise22Texts() {
        runs("", 0);
        runs("   ", 0);
        runs("line;", 1);
        runs(" line ; ", 1);
        runs("line;line;", 2);
        runs("tray  ;  close;line;", 3);
        runs("use 0 1 0;", 1);
        runs("  use   00  01   02   ;  drop 0 1 2;", 2);
        runs("cut 15 6 6;use 15 3 2;cut 15 06 6;", 3);
        runs("use 99 99 99;", 0);
        runs("cut 0 0 1;", 0);
        runs("drop 0 1 0;", 0);
        runs("tray;tray;tray;line;", 2);
    }

    private static void promise22LongTexts() {
        StringBuilder commands = new StringBuilder();
        for (int count = 0; count < 30; count++) {
            commands.append("line;");
        }
        runs(commands.toString(), 30);
        commands.setCharAt(149, ' ');
        faultAt(commands.toString(), 150);
        commands.setCharAt(145, 'x');
        faultAt(commands.toString(), 145);
        runs(" ".repeat(150), 0);
        faultAt("a".repeat(150), 0);
        faultAt("use" + " ".repeat(147), 150);
    }

    private static void promise22Effects() {
        TypeTrays trays = new TypeTrays();
        Check.type(trays, "cut 10 3 4;use 10 2 1;use 10 2 1;line;tray;use 1 1 0;drop 1 1 0;");
        Check.due("run", 7, trays::runCommands);
        Check.due("width", 3, () -> trays.sign(10, 0));
        Check.due("height", 4, () -> trays.sign(10, 1));
        Check.due("uses", 2, () -> trays.letter(10, 2, 1, 7));
        Check.due("line", 1, () -> trays.whole(4));
        Check.due("trays", 2, () -> trays.whole(0));
        Check.due("taken away", 1, () -> trays.whole(8));
        trays.clearCommands();
        Check.type(trays, "drop 10 02 01;close;");
        Check.due("run", 2, trays::runCommands);
        Check.due("shelves", 0, () -> trays.whole(1));
        Check.due("the same text once more stops at once", 0, trays::runCommands);
    }

    private static void promise22StopsAtTheFirstThatThrows() {
        TypeTrays trays = new TypeTrays();
        Check.type(trays, "line;use 0 1 0;use 16 1 0;line;line;");
        Check.due("run", 2, trays::runCommands);
        Check.due("only those before it", 1, () -> trays.whole(4));
        Check.due("the use before it", 1, () -> trays.whole(5));
        TypeTrays full = new TypeTrays();
        for (int sign = 0; sign < 6; sign++) {
            full.cut(sign, 6, 6);
        }
        Check.type(full, "use 0 3 2;use 1 3 2;use 2 3 2;use 3 3 2;use 4 3 2;use 5 3 2;line;");
        Check.due("a use that finds no place", 5, full::runCommands);
        Check.due("the clock", 5, () -> full.whole(5));
        Check.due("all are of the line and may not go", 5, () -> full.whole(10));
    }

    private static void promise22SavesOneState() {
        TypeTrays trays = new TypeTrays();
        long before = trays.digest();
        Check.type(trays, "line;line;tray;use 0 1 0;");
        Check.due("run", 4, trays::runCommands);
        Check.due("undo of the run", 0, trays::undo);
        trays.clearCommands();
        Check.due("as before", before, trays::digest);
        Check.due("run of nothing", 0, trays::runCommands);
        Check.due("is undoable", 0, trays::undo);
        Check.type(trays, "drop 0 1 0;");
        Check.due("run that stops at once", 0, trays::runCommands);
        Check.due("is undoable", 0, trays::undo);
        Check.type(trays, "!");
        Check.due("run with a fault", -21, trays::runCommands);
        Check.thrown("is not undoable", STATE, trays::undo);
    }
}
