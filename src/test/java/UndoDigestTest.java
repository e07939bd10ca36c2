/** Promises 23 and 24: undo and digest. */
public final class UndoDigestTest {
    private static final Class<IllegalStateException> STATE = IllegalStateException.class;

    public static void main(String[] args) {
        promise23Undo();
        promise23KeepsFour();
        promise23BringsBackEverything();
        promise23BringsBackWhatARunChanged();
        promise23ThrowingCallsSaveNothing();
        promise24NewObject();
        promise24AgainstTheCalls();
        Check.end();
    }

    private static void promise23Undo() {
        TypeTrays trays = new TypeTrays();
        Check.thrown("nothing to undo", STATE, trays::undo);
        trays.newLine();
        trays.newLine();
        Check.due("undo", 1, trays::undo);
        Check.due("line", 1, () -> trays.whole(4));
        trays.newLine();
        trays.addTray();
        Check.due("undo", 2, trays::undo);
        Check.due("trays", 1, () -> trays.whole(0));
        Check.due("line", 2, () -> trays.whole(4));
        Check.due("undo", 1, trays::undo);
        Check.due("undo", 0, trays::undo);
        Check.due("line", 0, () -> trays.whole(4));
        Check.thrown("nothing to undo again", STATE, trays::undo);
    }

    private static void promise23KeepsFour() {
        TypeTrays trays = new TypeTrays();
        for (int times = 0; times < 11; times++) {
            trays.newLine();
        }
        for (int left = 3; left >= 0; left--) {
            int due = left;
            Check.due("undo", due, trays::undo);
            Check.due("line", 7 + due, () -> trays.whole(4));
        }
        Check.thrown("older ones are dropped", STATE, trays::undo);
    }

    private static void promise23BringsBackEverything() {
        StringBuilder busy = new StringBuilder();
        for (int sign = 0; sign < 7; sign++) {
            busy.append("cut ").append(sign).append(" 6 6; use ").append(sign).append(' ').append(1 + sign % 3);
            busy.append(' ').append(sign % 2).append("; ");
        }
        busy.append("newLine; use 5 3 0; newLine; newLine; addTray; ");
        String undone = "undo; undo; undo; undo";
        sameValues(busy.toString(), "use 5 3 0; drop 1 2 1; use 9 3 0; use 0 1 0; " + undone);
        sameValues(busy.toString(), "cut 0 1 1; use 10 1 1; use 0 1 0; cut 1 6 5; " + undone);
    }

    private static void sameValues(String before, String changes) {
        Check.compare("all is as before " + changes, Values.of(Calls.builder(before)).toString(),
                Values.of(Calls.builder(before + changes)).toString());
    }

    private static void promise23BringsBackWhatARunChanged() {
        TypeTrays trays = Calls.after("cut 0 6 6; use 0 1 0; use 1 2 1");
        long before = trays.digest();
        Check.type(trays, "cut 0 1 1;use 1 2 1;cut 1 1 1;use 10 1 1;line;use 0 1 0;close;tray;use 9 3 2;");
        Check.due("run", 9, trays::runCommands);
        Check.due("undo", 3, trays::undo);
        trays.clearCommands();
        Check.due("all is as before the run", before, trays::digest);
    }

    private static void promise23ThrowingCallsSaveNothing() {
        TypeTrays trays = new TypeTrays();
        trays.newLine();
        Check.thrown("cut", IllegalArgumentException.class, () -> trays.cut(0, 0, 0));
        Check.thrown("use", IllegalArgumentException.class, () -> trays.use(0, 0, 0));
        Check.thrown("drop", STATE, () -> trays.drop(0, 1, 0));
        trays.type('x');
        trays.clearCommands();
        trays.rule(0, 1, 0);
        trays.digest();
        Check.due("one state was saved", 0, trays::undo);
    }

    private static void promise24NewObject() {
        TypeTrays trays = new TypeTrays();
        long first = trays.digest();
        Check.due("digest changes nothing", first, trays::digest);
        Check.due("digest of a new object", Values.digest(TypeTrays::new, 0), trays::digest);
        trays.newLine();
        trays.undo();
        Check.due("digest after undo", first, trays::digest);
        trays.closeShelves();
        Check.due("the stack counts", Values.digest(Calls.builder("closeShelves"), 1), trays::digest);
        trays.type('x');
        Check.due("the length of the text counts", Values.digest(Calls.builder("closeShelves; type 0"), 1),
                trays::digest);
    }

    private static void promise24AgainstTheCalls() {
        StringBuilder calls = new StringBuilder("addTray; ");
        for (int sign = 0; sign < 16; sign++) {
            calls.append("cut ").append(sign).append(' ').append(1 + sign % 6).append(' ').append(6 - sign % 5);
            calls.append("; use ").append(sign).append(' ').append(1 + sign % 3).append(' ').append(sign % 3);
            calls.append(sign == 9 ? "; newLine; " : "; ");
        }
        TypeTrays trays = Calls.after(calls.toString());
        Check.due("letters stand in the street", 1, () -> trays.whole(3) > 1 ? 1 : 0);
        Check.due("digest", Values.digest(Calls.builder(calls.toString()), 4), trays::digest);
    }
}
