/** Promises 1 to 7: a new object, cut, use, drop, newLine, addTray, closeShelves. */
public final class ChangesTest {
    private static final Class<IndexOutOfBoundsException> INDEX = IndexOutOfBoundsException.class;
    private static final Class<IllegalArgumentException> ARGUMENT = IllegalArgumentException.class;
    private static final Class<IllegalStateException> STATE = IllegalStateException.class;

    public static void main(String[] args) {
        promise1NewObject();
        promise2Cut();
        promise2CutTakesLettersAway();
        promise2CutExceptions();
        promise3Hit();
        promise3GapOfLeastSpareHeight();
        promise3GapOfLowestTrayHighestShelfLeftmost();
        promise3GapIsNotTooNarrow();
        promise3NewShelf();
        promise3EmptiedShelf();
        promise3EmptiedShelfIsNotOfLineNorTooLow();
        promise3Street();
        promise3StreetOfLine();
        promise3Ink();
        promise3Exceptions();
        promise4Drop();
        promise5NewLine();
        promise6AddTray();
        promise7CloseShelves();
        promise7LowShelves();
        Check.end();
    }

    private static TypeTrays made() {
        return new TypeTrays();
    }

    /** Signs 0 to 9 are cut 6 wide and 6 high: in size 3 they are 18 wide and high, with blur 2 they are 22. */
    private static TypeTrays madeWithGreatSigns() {
        TypeTrays trays = made();
        for (int sign = 0; sign < 10; sign++) {
            trays.cut(sign, 6, 6);
        }
        return trays;
    }

    private static void promise1NewObject() {
        TypeTrays trays = made();
        long[] due = {1, 0, 0, 0, 0, 0, 0, 0, 0, 0, 0, 0, 0};
        for (int what = 0; what < due.length; what++) {
            int which = what;
            Check.due("new: whole " + what, due[what], () -> trays.whole(which));
        }
        Check.due("new: width", 2, () -> trays.sign(0, 0));
        Check.due("new: height", 2, () -> trays.sign(15, 1));
        Check.due("new: shelves", 0, () -> trays.tray(0, 0));
        Check.thrown("new: undo", STATE, trays::undo);
    }

    private static void promise2Cut() {
        TypeTrays trays = made();
        Check.due("cut of nothing there", 0, () -> trays.cut(3, 1, 6));
        Check.due("width", 1, () -> trays.sign(3, 0));
        Check.due("height", 6, () -> trays.sign(3, 1));
        Check.due("other sign", 2, () -> trays.sign(2, 1));
        Check.due("cut is undoable", 0, trays::undo);
        Check.due("width again", 2, () -> trays.sign(3, 0));
        trays.use(3, 1, 0);
        Check.due("cut to the same", 0, () -> trays.cut(3, 2, 2));
        Check.due("letter stays", 1, () -> trays.whole(2));
        Check.due("cut to the same is undoable", 1, trays::undo);
        Check.due("letter still there", 1, () -> trays.whole(2));
    }

    private static void promise2CutTakesLettersAway() {
        TypeTrays trays = madeWithGreatSigns();
        trays.use(0, 3, 2);
        trays.use(1, 3, 0);
        trays.use(2, 3, 0);
        trays.use(1, 1, 1);
        Check.due("two of sign 1 laid or in the street", 2, () -> trays.sign(1, 2) + trays.sign(1, 3));
        Check.due("cut of the width alone", 2, () -> trays.cut(1, 5, 6));
        Check.due("taken away", 2, () -> trays.whole(8));
        Check.due("none of sign 1", 0, () -> trays.sign(1, 2) + trays.sign(1, 3));
        Check.due("those of sign 2 stay", 1, () -> trays.sign(2, 3));
        Check.due("cut of the height alone", 1, () -> trays.cut(2, 6, 5));
        Check.due("the street is empty", 0, () -> trays.whole(3));
        Check.due("the shelf of a letter taken away stays", 1, () -> trays.cut(0, 1, 1));
        Check.due("its height stays", 22, () -> trays.shelf(0, 0, 1));
    }

    private static void promise2CutExceptions() {
        TypeTrays trays = made();
        Check.thrown("cut -1", INDEX, () -> trays.cut(-1, 0, 0));
        Check.thrown("cut 16", INDEX, () -> trays.cut(16, 7, 7));
        Check.thrown("cut width 0", ARGUMENT, () -> trays.cut(0, 0, 1));
        Check.thrown("cut width 7", ARGUMENT, () -> trays.cut(15, 7, 1));
        Check.thrown("cut height 0", ARGUMENT, () -> trays.cut(0, 1, 0));
        Check.thrown("cut height 7", ARGUMENT, () -> trays.cut(15, 1, 7));
        Check.thrown("nothing was saved", STATE, trays::undo);
        Check.due("nothing was changed", 2, () -> trays.sign(0, 0));
        Check.due("cut of the last sign to the greatest", 0, () -> trays.cut(15, 6, 6));
    }

    private static void promise3Hit() {
        TypeTrays trays = madeWithGreatSigns();
        trays.use(0, 3, 2);
        trays.use(1, 3, 2);
        trays.newLine();
        Check.due("hit of one laid", 0, () -> trays.use(0, 3, 2));
        Check.due("hit of one in the street", 0, () -> trays.use(1, 3, 2));
        Check.due("clock", 4, () -> trays.whole(5));
        Check.due("hits", 2, () -> trays.whole(6));
        Check.due("made", 2, () -> trays.whole(7));
        Check.due("ink", 968, () -> trays.whole(9));
        Check.due("latest use", 3, () -> trays.letter(0, 3, 2, 5));
        Check.due("line", 1, () -> trays.letter(1, 3, 2, 6));
        Check.due("uses", 2, () -> trays.letter(1, 3, 2, 7));
        Check.due("hit is undoable", 3, trays::undo);
        Check.due("clock again", 3, () -> trays.whole(5));
    }

    private static void promise3GapOfLeastSpareHeight() {
        TypeTrays trays = made();
        trays.cut(0, 2, 6);
        trays.cut(1, 2, 5);
        trays.cut(2, 2, 4);
        Check.due("first shelf of height 6", 2, () -> trays.use(0, 1, 0));
        trays.drop(0, 1, 0);
        trays.cut(0, 6, 4);
        Check.due("into the emptied shelf", 1, () -> trays.use(0, 1, 0));
        trays.cut(3, 6, 6);
        Check.due("second shelf of height 12", 2, () -> trays.use(3, 2, 0));
        trays.drop(3, 2, 0);
        Check.due("height 4 goes to the shelf of 6", 1, () -> trays.use(2, 1, 0));
        Check.due("on shelf 0", 0, () -> trays.letter(2, 1, 0, 8));
        Check.due("height 10 goes to the shelf of 12", 1, () -> trays.use(1, 2, 0));
        Check.due("on shelf 1", 1, () -> trays.letter(1, 2, 0, 8));
        Check.due("height 5 goes to the shelf of 6 again", 1, () -> trays.use(1, 1, 0));
        Check.due("at x 8", 8, () -> trays.letter(1, 1, 0, 1));
        Check.due("beside 6 and 2 columns", 14, () -> trays.shelf(0, 0, 4));
    }

    private static void promise3GapOfLowestTrayHighestShelfLeftmost() {
        TypeTrays trays = made();
        trays.cut(0, 6, 6);
        for (int size = 1; size <= 3; size++) {
            trays.use(0, size, 0);
        }
        // shelf 0 of height 6: letter of size 1; shelf 1 of height 12; size 3 stands in the street
        Check.due("size 3 finds no place", 1, () -> trays.sign(0, 3));
        trays.addTray();
        trays.cut(0, 5, 6);
        Check.due("lowest tray", 1, () -> trays.use(0, 1, 0));
        Check.due("tray 0", 0, () -> trays.letter(0, 1, 0, 0));
        trays.use(1, 1, 0);
        trays.use(2, 1, 0);
        trays.use(3, 1, 0);
        trays.drop(0, 1, 0);
        trays.drop(2, 1, 0);
        Check.due("gaps of 5, 2 and 13 columns", 3, () -> trays.shelf(0, 0, 3));
        trays.use(4, 1, 0);
        Check.due("the leftmost gap, though the other is tighter", 0, () -> trays.letter(4, 1, 0, 1));
        Check.due("on shelf 0, though shelf 1 is empty", 0, () -> trays.letter(4, 1, 0, 8));
    }

    private static void promise3GapIsNotTooNarrow() {
        TypeTrays trays = made();
        trays.cut(0, 6, 1);
        trays.use(0, 3, 0);
        trays.cut(1, 1, 1);
        trays.use(1, 1, 0);
        Check.due("behind 18 columns", 18, () -> trays.letter(1, 1, 0, 1));
        trays.cut(2, 5, 1);
        Check.due("a letter as wide as the gap", 1, () -> trays.use(2, 1, 0));
        Check.due("no gap is left", 0, () -> trays.shelf(0, 0, 3));
        trays.drop(1, 1, 0);
        trays.cut(3, 2, 1);
        Check.due("a letter wider than the gap", 2, () -> trays.use(3, 1, 0));
        Check.due("opens a shelf of its height", 1, () -> trays.shelf(0, 1, 1));
    }

    private static void promise3NewShelf() {
        TypeTrays trays = madeWithGreatSigns();
        trays.use(0, 3, 0);
        trays.addTray();
        trays.use(1, 1, 0);
        Check.due("18 and 18 are more than 24", 2, () -> trays.use(2, 3, 0));
        Check.due("in the next tray", 1, () -> trays.letter(2, 3, 0, 0));
        Check.due("at its top", 0, () -> trays.letter(2, 3, 0, 2));
        trays.cut(10, 6, 2);
        Check.due("18 and 6 are 24", 2, () -> trays.use(10, 3, 0));
        Check.due("tray 0", 0, () -> trays.letter(10, 3, 0, 0));
        Check.due("at its bottom", 18, () -> trays.letter(10, 3, 0, 2));
        Check.due("its shelf is 1", 1, () -> trays.letter(10, 3, 0, 8));
        Check.due("tray 0 is full", 24, () -> trays.tray(0, 1));
        trays.cut(11, 6, 2);
        Check.due("a further shelf of 6", 2, () -> trays.use(11, 3, 0));
        Check.due("goes to tray 1", 1, () -> trays.letter(11, 3, 0, 0));
    }

    private static void promise3EmptiedShelf() {
        TypeTrays trays = madeWithGreatSigns();
        trays.addTray();
        trays.use(0, 3, 0);
        trays.use(1, 3, 0);
        trays.newLine();
        trays.use(2, 1, 0);
        Check.due("beside sign 0", 18, () -> trays.letter(2, 1, 0, 1));
        trays.newLine();
        Check.due("shelf with the least greatest latest use", 3, () -> trays.use(3, 3, 0));
        Check.due("in tray 1", 1, () -> trays.letter(3, 3, 0, 0));
        Check.due("at its left end", 0, () -> trays.letter(3, 3, 0, 1));
        Check.due("sign 1 went", -1, () -> trays.letter(1, 3, 0, 0));
        Check.due("one was taken away", 1, () -> trays.whole(8));
        Check.due("the other shelf is emptied of two", 2, () -> trays.takenBy(4, 3, 0));
        Check.due("by rule 3 again", 3, () -> trays.use(4, 3, 0));
        Check.due("tray 0", 0, () -> trays.letter(4, 3, 0, 0));
        Check.due("three were taken away", 3, () -> trays.whole(8));
        Check.due("the shelf keeps its height", 18, () -> trays.shelf(0, 0, 1));
    }

    private static void promise3EmptiedShelfIsNotOfLineNorTooLow() {
        TypeTrays trays = madeWithGreatSigns();
        trays.use(0, 2, 0);
        trays.use(1, 2, 0);
        trays.use(2, 2, 0);
        trays.use(3, 2, 0);
        trays.newLine();
        trays.use(1, 2, 0);
        Check.due("shelf 0 is of the line", 1, () -> trays.shelf(0, 0, 6));
        Check.due("a letter higher than the shelves", 4, () -> trays.rule(4, 3, 0));
        Check.due("a letter as high as the shelves", 3, () -> trays.use(4, 2, 0));
        Check.due("on shelf 1", 1, () -> trays.letter(4, 2, 0, 8));
        trays.use(5, 2, 0);
        Check.due("all shelves are of the line", 4, () -> trays.rule(6, 2, 0));
    }

    private static void promise3Street() {
        TypeTrays trays = madeWithGreatSigns();
        trays.use(0, 3, 2);
        for (int sign = 1; sign <= 4; sign++) {
            int which = sign;
            Check.due("the street has room", 4, () -> trays.use(which, 3, 2));
        }
        trays.newLine();
        trays.use(0, 3, 2);
        trays.use(1, 3, 2);
        Check.due("the street is full", 4, () -> trays.use(5, 3, 2));
        Check.due("the one with the least latest use went", -1, () -> trays.letter(2, 3, 2, 5));
        Check.due("the first stays the first", 132, () -> trays.street(0));
        Check.due("the others move up", 332, () -> trays.street(1));
        Check.due("the new one is the last", 532, () -> trays.street(3));
        Check.due("taken away", 1, () -> trays.whole(8));
    }

    private static void promise3StreetOfLine() {
        TypeTrays trays = madeWithGreatSigns();
        for (int sign = 0; sign <= 4; sign++) {
            trays.use(sign, 3, 2);
        }
        long before = trays.digest();
        Check.thrown("all are of the line", STATE, () -> trays.use(5, 3, 2));
        Check.due("nothing was changed", before, trays::digest);
        trays.newLine();
        trays.use(0, 3, 2);
        trays.use(1, 3, 2);
        trays.use(2, 3, 2);
        trays.use(4, 3, 2);
        Check.due("only sign 3 may go", 4, () -> trays.use(5, 3, 2));
        Check.due("sign 3 went", -1, () -> trays.letter(3, 3, 2, 6));
        Check.thrown("all are of the line again", STATE, () -> trays.use(6, 3, 2));
    }

    private static void promise3Ink() {
        TypeTrays trays = made();
        trays.cut(0, 1, 1);
        trays.use(0, 1, 1);
        Check.due("3 * 3, blurred without the sharp one", 9, () -> trays.whole(9));
        trays.use(0, 1, 0);
        Check.due("1 * 1", 10, () -> trays.whole(9));
        trays.use(0, 1, 2);
        Check.due("half of 5 * 5, rounded down", 22, () -> trays.whole(9));
        trays.use(0, 2, 1);
        Check.due("4 * 4: the sharp one has another size", 38, () -> trays.whole(9));
        trays.use(1, 1, 1);
        Check.due("4 * 4: the sharp one has another sign", 54, () -> trays.whole(9));
        TypeTrays full = madeWithGreatSigns();
        full.use(0, 3, 2);
        full.use(1, 3, 0);
        full.use(1, 3, 1);
        Check.due("half of 20 * 20: the sharp one is in the street", 484 + 324 + 200, () -> full.whole(9));
        TypeTrays emptied = madeWithGreatSigns();
        emptied.use(1, 3, 0);
        emptied.use(0, 1, 0);
        emptied.newLine();
        Check.due("8 * 8 where the sharp one stands", 3, () -> emptied.use(0, 1, 1));
        Check.due("the sharp one went", -1, () -> emptied.letter(0, 1, 0, 5));
        Check.due("half all the same", 324 + 36 + 32, () -> emptied.whole(9));
    }

    private static void promise3Exceptions() {
        TypeTrays trays = made();
        Check.thrown("use -1", INDEX, () -> trays.use(-1, 0, 0));
        Check.thrown("use 16", INDEX, () -> trays.use(16, 1, 0));
        Check.thrown("use size 0", ARGUMENT, () -> trays.use(0, 0, 0));
        Check.thrown("use size 4", ARGUMENT, () -> trays.use(0, 4, 0));
        Check.thrown("use blur -1", ARGUMENT, () -> trays.use(0, 1, -1));
        Check.thrown("use blur 3", ARGUMENT, () -> trays.use(0, 1, 3));
        Check.due("the clock stands", 0, () -> trays.whole(5));
        Check.thrown("nothing was saved", STATE, trays::undo);
    }

    private static void promise4Drop() {
        TypeTrays trays = madeWithGreatSigns();
        trays.use(0, 3, 2);
        trays.use(1, 3, 2);
        trays.use(1, 3, 2);
        trays.use(1, 3, 2);
        Check.due("drop of one in the street", 3, () -> trays.drop(1, 3, 2));
        Check.due("the street is empty", -1, () -> trays.street(0));
        Check.due("drop of one laid", 1, () -> trays.drop(0, 3, 2));
        Check.due("taken away", 2, () -> trays.whole(8));
        Check.due("its shelf stays", 1, () -> trays.tray(0, 0));
        Check.due("drop is undoable", 3, trays::undo);
        Check.due("it is there again", 1, () -> trays.letter(0, 3, 2, 7));
        Check.due("the one dropped before is not", -1, () -> trays.letter(1, 3, 2, 7));
        trays.drop(0, 3, 2);
        trays.use(0, 3, 2);
        Check.due("made anew, its uses begin anew", 1, () -> trays.drop(0, 3, 2));
        Check.thrown("drop of none", STATE, () -> trays.drop(0, 3, 2));
        Check.thrown("drop -1", INDEX, () -> trays.drop(-1, 4, 0));
        Check.thrown("drop 16", INDEX, () -> trays.drop(16, 1, 0));
        Check.thrown("drop size 0", ARGUMENT, () -> trays.drop(0, 0, 0));
        Check.thrown("drop size 4", ARGUMENT, () -> trays.drop(0, 4, 0));
        Check.thrown("drop blur -1", ARGUMENT, () -> trays.drop(0, 1, -1));
        Check.thrown("drop blur 3", ARGUMENT, () -> trays.drop(0, 1, 3));
    }

    private static void promise5NewLine() {
        TypeTrays trays = madeWithGreatSigns();
        Check.due("no letters", 0, trays::newLine);
        trays.use(0, 3, 2);
        trays.use(1, 3, 2);
        trays.use(10, 1, 0);
        trays.drop(10, 1, 0);
        Check.due("one laid and one in the street", 2, trays::newLine);
        Check.due("line", 2, () -> trays.whole(4));
        trays.use(1, 3, 2);
        Check.due("only the one that was used again", 1, trays::newLine);
        Check.due("newLine is undoable", 3, trays::undo);
        Check.due("line again", 2, () -> trays.whole(4));
    }

    private static void promise6AddTray() {
        TypeTrays trays = made();
        Check.due("second tray", 1, trays::addTray);
        Check.due("third tray", 2, trays::addTray);
        Check.thrown("fourth tray", STATE, trays::addTray);
        Check.due("trays", 3, () -> trays.whole(0));
        Check.due("without shelves", 0, () -> trays.tray(2, 0));
        Check.due("addTray is undoable", 1, trays::undo);
        Check.thrown("the third tray is gone", INDEX, () -> trays.tray(2, 0));
        Check.due("third tray again", 2, trays::addTray);
    }

    private static void promise7LowShelves() {
        TypeTrays trays = made();
        for (int sign = 0; sign < 12; sign++) {
            trays.cut(sign, 6, 1);
            trays.use(sign, 1, 0);
        }
        Check.due("three shelves of height 1", 3, () -> trays.tray(0, 1));
        for (int sign = 0; sign < 8; sign++) {
            trays.drop(sign, 1, 0);
        }
        Check.due("the upper two are closed", 2, trays::closeShelves);
        Check.due("the lowest is shelf 0", 0, () -> trays.letter(8, 1, 0, 8));
        Check.due("its last letter too", 0, () -> trays.letter(11, 1, 0, 8));
        Check.due("x stays", 18, () -> trays.letter(11, 1, 0, 1));
        Check.due("a shelf of height 1 is left", 1, () -> trays.tray(0, 1));
    }

    private static void promise7CloseShelves() {
        TypeTrays trays = made();
        trays.addTray();
        for (int sign = 0; sign < 4; sign++) {
            trays.cut(sign, 6, 3 + sign);
            trays.use(sign, 3, sign < 2 ? 0 : 2);
        }
        // heights 9, 12, 19, 22: tray 0 holds 9 and 12, tray 1 holds 19, the street holds 22
        Check.due("no shelf is empty", 0, trays::closeShelves);
        trays.drop(0, 3, 0);
        trays.drop(2, 3, 2);
        Check.due("shelf 1 of tray 0 below an empty one", 9, () -> trays.letter(1, 3, 0, 2));
        Check.due("two are closed", 2, trays::closeShelves);
        Check.due("it moved up", 0, () -> trays.letter(1, 3, 0, 2));
        Check.due("to shelf 0", 0, () -> trays.letter(1, 3, 0, 8));
        Check.due("of tray 0", 0, () -> trays.letter(1, 3, 0, 0));
        Check.due("tray 0 has one shelf", 12, () -> trays.tray(0, 0) * trays.tray(0, 1));
        Check.due("tray 1 has none", 0, () -> trays.tray(1, 0) + trays.tray(1, 1));
        Check.due("at its new place", 130, () -> trays.at(0, 0, 0));
        Check.due("closeShelves is undoable", 3, trays::undo);
        Check.due("at its old place", 9, () -> trays.letter(1, 3, 0, 2));
        Check.due("closed again", 2, trays::closeShelves);
        Check.due("closing nothing is undoable too", 3, () -> trays.closeShelves() == 0 ? trays.undo() : -5);
    }
}
