/** Promises 23 and 24: undo and digest. */
public final class UndoDigestTest {
    private static final Class<IllegalStateException> STATE = IllegalStateException.class;

    public static void main(String[] args) {
        promise23Undo();
        promise23KeepsFour();
        promise23BringsBackEverything();
        promise23ThrowingCallsSaveNothing();
        promise24NewObject();
        promise24AgainstTheCalls();
        Check.end();
    }

    private static void promise23Undo() {
        TypeTrays trays = new TypeTrays();
        Check.thrown("nothing to undo", STATE, trays::undo);
        trays.newLine();
        trays.newLine();
        Check.due("undo", 1, trays::undo);
        Check.due("line", 1, () -> trays.whole(4));
        trays.newLine();
        trays.addTray();
        Check.due("undo", 2, trays::undo);
        Check.due("trays", 1, () -> trays.whole(0));
        Check.due("line", 2, () -> trays.whole(4));
        Check.due("undo", 1, trays::undo);
        Check.due("undo", 0, trays::undo);
        Check.due("line", 0, () -> trays.whole(4));
        Check.thrown("nothing to undo again", STATE, trays::undo);
    }

    private static void promise23KeepsFour() {
        TypeTrays trays = new TypeTrays();
        for (int times = 0; times < 11; times++) {
            trays.newLine();
        }
        for (int left = 3; left >= 0; left--) {
            int due = left;
            Check.due("undo", due, trays::undo);
            Check.due("line", 7 + due, () -> trays.whole(4));
        }
        Check.thrown("older ones are dropped", STATE, trays::undo);
    }

    private static void promise23BringsBackEverything() {
        TypeTrays trays = new TypeTrays();
        for (int sign = 0; sign < 7; sign++) {
            trays.cut(sign, 6, 6);
            trays.use(sign, 1 + sign % 3, sign % 2);
        }
        trays.newLine();
        trays.use(5, 3, 0);
        trays.newLine();
        trays.newLine();
        trays.addTray();
        long before = withoutStack(trays);
        trays.use(5, 3, 0);
        trays.drop(1, 2, 1);
        trays.use(9, 3, 0);
        trays.use(0, 1, 0);
        undoAll(trays);
        Check.due("all is as before", before, () -> withoutStack(trays));
        trays.cut(0, 1, 1);
        trays.use(10, 1, 1);
        trays.use(0, 1, 0);
        trays.cut(1, 6, 5);
        undoAll(trays);
        Check.due("all is as before again", before, () -> withoutStack(trays));
        Check.type(trays, "cut 0 1 1;use 1 2 1;cut 1 1 1;use 10 1 1;line;use 0 1 0;close;tray;use 9 3 2;");
        Check.due("run", 9, trays::runCommands);
        trays.undo();
        trays.clearCommands();
        Check.due("all is as before the run", before, () -> withoutStack(trays));
    }

    private static void undoAll(TypeTrays trays) {
        for (int left = 3; left >= 0; left--) {
            int due = left;
            Check.due("undo", due, trays::undo);
        }
    }

    /** The digest of the values behind the number of states on the stack, by the calls. */
    private static long withoutStack(TypeTrays trays) {
        return digestByCalls(trays, 0);
    }

    private static void promise23ThrowingCallsSaveNothing() {
        TypeTrays trays = new TypeTrays();
        trays.newLine();
        Check.thrown("cut", IllegalArgumentException.class, () -> trays.cut(0, 0, 0));
        Check.thrown("use", IllegalArgumentException.class, () -> trays.use(0, 0, 0));
        Check.thrown("drop", STATE, () -> trays.drop(0, 1, 0));
        trays.type('x');
        trays.clearCommands();
        trays.rule(0, 1, 0);
        trays.digest();
        Check.due("one state was saved", 0, trays::undo);
    }

    private static void promise24NewObject() {
        TypeTrays trays = new TypeTrays();
        long first = trays.digest();
        Check.due("digest changes nothing", first, trays::digest);
        Check.due("digest of a new object", digestByCalls(trays, 0), trays::digest);
        trays.newLine();
        trays.undo();
        Check.due("digest after undo", first, trays::digest);
        trays.closeShelves();
        Check.due("the stack counts", digestByCalls(trays, 1), trays::digest);
        trays.type('x');
        Check.due("the length of the text counts", digestByCalls(trays, 1), trays::digest);
    }

    private static void promise24AgainstTheCalls() {
        TypeTrays trays = new TypeTrays();
        trays.addTray();
        for (int sign = 0; sign < 16; sign++) {
            trays.cut(sign, 1 + sign % 6, 6 - sign % 5);
            trays.use(sign, 1 + sign % 3, sign % 3);
            if (sign == 9) {
                trays.newLine();
            }
        }
        Check.due("letters stand in the street", 1, () -> trays.whole(3) > 1 ? 1 : 0);
        Check.due("digest", digestByCalls(trays, 4), trays::digest);
    }

    private static long digestByCalls(TypeTrays trays, int states) {
        long hash = 31 * 43532L + states;
        for (int what = 0; what <= 12; what++) {
            hash = 31 * hash + trays.whole(what);
        }
        for (int sign = 0; sign < 16; sign++) {
            for (int what = 0; what <= 3; what++) {
                hash = 31 * hash + trays.sign(sign, what);
            }
        }
        for (int letter = 0; letter < 144; letter++) {
            for (int what = 0; what <= 8; what++) {
                hash = 31 * hash + trays.letter(letter / 9, 1 + letter / 3 % 3, letter % 3, what);
            }
        }
        for (int tray = 0; tray < trays.whole(0); tray++) {
            for (int what = 0; what <= 3; what++) {
                hash = 31 * hash + trays.tray(tray, what);
            }
            for (int shelf = 0; shelf < trays.tray(tray, 0); shelf++) {
                for (int what = 0; what <= 6; what++) {
                    hash = 31 * hash + trays.shelf(tray, shelf, what);
                }
            }
        }
        for (int index = 0; index < trays.whole(3); index++) {
            hash = 31 * hash + trays.street(index);
        }
        return 31 * (31 * hash + trays.oldest()) + trays.greatestGap();
    }
}
