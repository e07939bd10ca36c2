/** Promises 8 to 14: letter, sign, tray, shelf, at, street, whole. */
public final class ValuesTest {
    private static final Class<IndexOutOfBoundsException> INDEX = IndexOutOfBoundsException.class;
    private static final Class<IllegalArgumentException> ARGUMENT = IllegalArgumentException.class;

    public static void main(String[] args) {
        promise8Letter();
        promise8Exceptions();
        promise9Sign();
        promise10Tray();
        promise11Shelf();
        promise11EmptyShelf();
        promise12At();
        promise13Street();
        promise14Whole();
        Check.end();
    }

    /**
     * Tray 0 has shelf 0 (height 6, sign 0 in size 2: 8 by 6, then sign 2: 6 by 1), and shelf 1 (height 8,
     * sign 1 with blur 1: 4 by 8). Sign 3 with blur 2 (22 by 22) and sign 4 (12 by 12) stand in the street. The uses
     * are in line 0, but the second use of sign 0, the clock's sixth, and the use of sign 4 are in line 1.
     */
    private static TypeTrays laid() {
        TypeTrays trays = new TypeTrays();
        trays.cut(0, 4, 3);
        trays.cut(1, 2, 6);
        trays.cut(2, 6, 1);
        trays.cut(3, 6, 6);
        trays.cut(4, 6, 6);
        trays.use(0, 2, 0);
        trays.use(1, 1, 1);
        trays.use(2, 1, 0);
        trays.use(3, 3, 2);
        trays.newLine();
        trays.use(2, 1, 0);
        trays.use(0, 2, 0);
        trays.use(4, 2, 0);
        return trays;
    }

    private interface Value {
        long of(int what);
    }

    private static void values(String name, Value value, long... due) {
        for (int what = 0; what < due.length; what++) {
            int which = what;
            Check.due(name + " " + what, due[what], () -> value.of(which));
        }
    }

    private static void promise8Letter() {
        TypeTrays trays = laid();
        values("letter 0 2 0", what -> trays.letter(0, 2, 0, what), 0, 0, 0, 8, 6, 6, 1, 2, 0);
        values("letter 1 1 1", what -> trays.letter(1, 1, 1, what), 0, 0, 6, 4, 8, 2, 0, 1, 1);
        values("letter 2 1 0", what -> trays.letter(2, 1, 0, what), 0, 8, 0, 6, 1, 5, 1, 2, 0);
        values("letter 3 3 2", what -> trays.letter(3, 3, 2, what), -1, -1, -1, 22, 22, 4, 0, 1, -1);
        values("letter 15 3 2", what -> trays.letter(15, 3, 2, what), -1, -1, -1, 10, 10, -1, -1, -1, -1);
        trays.addTray();
        trays.use(5, 3, 2);
        values("letter 5 3 2", what -> trays.letter(5, 3, 2, what), 0, 0, 14, 10, 10, 8, 1, 1, 2);
        trays.use(6, 3, 2);
        trays.use(7, 3, 2);
        trays.use(8, 3, 2);
        values("letter 8 3 2", what -> trays.letter(8, 3, 2, what), 1, 10, 0, 10, 10, 11, 1, 1, 0);
        trays.drop(8, 3, 2);
        values("dropped letter 8 3 2", what -> trays.letter(8, 3, 2, what), -1, -1, -1, 10, 10, -1, -1, -1, -1);
    }

    private static void promise8Exceptions() {
        TypeTrays trays = laid();
        Check.thrown("letter -1", INDEX, () -> trays.letter(-1, 1, 0, 9));
        Check.thrown("letter 16", INDEX, () -> trays.letter(16, 0, 0, 0));
        Check.thrown("letter size 0", ARGUMENT, () -> trays.letter(0, 0, 0, 0));
        Check.thrown("letter size 4", ARGUMENT, () -> trays.letter(0, 4, 0, 0));
        Check.thrown("letter blur -1", ARGUMENT, () -> trays.letter(0, 1, -1, 0));
        Check.thrown("letter blur 3", ARGUMENT, () -> trays.letter(0, 1, 3, 0));
        Check.thrown("letter what -1", ARGUMENT, () -> trays.letter(0, 1, 0, -1));
        Check.thrown("letter what 9", ARGUMENT, () -> trays.letter(0, 1, 0, 9));
    }

    private static void promise9Sign() {
        TypeTrays trays = laid();
        trays.use(0, 1, 0);
        values("sign 0", what -> trays.sign(0, what), 4, 3, 2, 0);
        values("sign 2", what -> trays.sign(2, what), 6, 1, 1, 0);
        values("sign 3", what -> trays.sign(3, what), 6, 6, 0, 1);
        values("sign 15", what -> trays.sign(15, what), 2, 2, 0, 0);
        Check.thrown("sign -1", INDEX, () -> trays.sign(-1, 4));
        Check.thrown("sign 16", INDEX, () -> trays.sign(16, 0));
        Check.thrown("sign what -1", ARGUMENT, () -> trays.sign(0, -1));
        Check.thrown("sign what 4", ARGUMENT, () -> trays.sign(0, 4));
    }

    private static void promise10Tray() {
        TypeTrays trays = laid();
        values("tray 0", what -> trays.tray(0, what), 2, 14, 3, 48 + 32 + 6);
        Check.thrown("tray 1", INDEX, () -> trays.tray(1, 0));
        trays.addTray();
        values("tray 1", what -> trays.tray(1, what), 0, 0, 0, 0);
        trays.use(4, 3, 0);
        values("tray 1 with a letter", what -> trays.tray(1, what), 1, 18, 1, 324);
        values("tray 0 as before", what -> trays.tray(0, what), 2, 14, 3, 86);
        Check.thrown("tray -1", INDEX, () -> trays.tray(-1, 4));
        Check.thrown("tray 2", INDEX, () -> trays.tray(2, 0));
        Check.thrown("tray what -1", ARGUMENT, () -> trays.tray(0, -1));
        Check.thrown("tray what 4", ARGUMENT, () -> trays.tray(1, 4));
    }

    private static void promise11Shelf() {
        TypeTrays trays = laid();
        values("shelf 0 0", what -> trays.shelf(0, 0, what), 0, 6, 2, 1, 10, 6, 1);
        values("shelf 0 1", what -> trays.shelf(0, 1, what), 6, 8, 1, 1, 20, 2, 0);
        trays.drop(0, 2, 0);
        values("shelf 0 0 with two gaps", what -> trays.shelf(0, 0, what), 0, 6, 1, 2, 10, 5, 1);
        Check.thrown("shelf of tray -1", INDEX, () -> trays.shelf(-1, 0, 0));
        Check.thrown("shelf of tray 1", INDEX, () -> trays.shelf(1, 0, 7));
        Check.thrown("shelf -1", INDEX, () -> trays.shelf(0, -1, 7));
        Check.thrown("shelf 2", INDEX, () -> trays.shelf(0, 2, 0));
        Check.thrown("shelf what -1", ARGUMENT, () -> trays.shelf(0, 0, -1));
        Check.thrown("shelf what 7", ARGUMENT, () -> trays.shelf(0, 1, 7));
        trays.addTray();
        Check.thrown("shelf of a tray without shelves", INDEX, () -> trays.shelf(1, 0, 0));
    }

    private static void promise11EmptyShelf() {
        TypeTrays trays = laid();
        trays.drop(1, 1, 1);
        values("empty shelf 0 1", what -> trays.shelf(0, 1, what), 6, 8, 0, 1, 24, -1, 0);
        trays.cut(5, 6, 2);
        trays.use(5, 3, 0);
        values("shelf 0 1 with 18 columns covered", what -> trays.shelf(0, 1, what), 6, 8, 1, 1, 6, 8, 1);
        trays.cut(7, 2, 3);
        trays.use(7, 2, 1);
        values("full shelf 0 1", what -> trays.shelf(0, 1, what), 6, 8, 2, 0, 0, 9, 1);
    }

    private static void promise12At() {
        TypeTrays trays = laid();
        Check.due("at upper left", 20, () -> trays.at(0, 0, 0));
        Check.due("at lower right of sign 0", 20, () -> trays.at(0, 7, 5));
        Check.due("at the row below it", 111, () -> trays.at(0, 3, 6));
        Check.due("at lower right of sign 1", 111, () -> trays.at(0, 3, 13));
        Check.due("right of sign 1", -1, () -> trays.at(0, 4, 13));
        Check.due("below sign 1", -1, () -> trays.at(0, 0, 14));
        Check.due("at sign 2", 210, () -> trays.at(0, 13, 0));
        Check.due("on the shelf, below the letter", -1, () -> trays.at(0, 13, 1));
        Check.due("the last place", -1, () -> trays.at(0, 23, 23));
        Check.thrown("at tray -1", INDEX, () -> trays.at(-1, 24, 0));
        Check.thrown("at tray 1", INDEX, () -> trays.at(1, 0, -1));
        Check.thrown("at x -1", ARGUMENT, () -> trays.at(0, -1, 0));
        Check.thrown("at x 24", ARGUMENT, () -> trays.at(0, 24, 0));
        Check.thrown("at y -1", ARGUMENT, () -> trays.at(0, 0, -1));
        Check.thrown("at y 24", ARGUMENT, () -> trays.at(0, 0, 24));
        trays.addTray();
        Check.due("in the other tray", -1, () -> trays.at(1, 0, 0));
    }

    private static void promise13Street() {
        TypeTrays trays = laid();
        Check.due("street 0", 332, () -> trays.street(0));
        Check.due("street 1", 420, () -> trays.street(1));
        Check.due("street 2", -1, () -> trays.street(2));
        Check.due("street far behind", -1, () -> trays.street(Integer.MAX_VALUE));
        Check.thrown("street -1", ARGUMENT, () -> trays.street(-1));
        trays.use(3, 3, 2);
        Check.due("a hit does not move it", 332, () -> trays.street(0));
        trays.drop(3, 3, 2);
        Check.due("the next moves up", 420, () -> trays.street(0));
    }

    private static void promise14Whole() {
        TypeTrays trays = laid();
        trays.drop(1, 1, 1);
        trays.addTray();
        trays.type('x');
        values("whole", trays::whole, 2, 2, 3 - 1, 2, 1, 7, 2, 5, 1, 48 + 32 + 6 + 484 + 144, 3, 54, 1);
        Check.thrown("whole -1", ARGUMENT, () -> trays.whole(-1));
        Check.thrown("whole 13", ARGUMENT, () -> trays.whole(13));
    }
}
