/** The sentences of promises 8 to 14, each with a test of its own. */
public final class SentencesOfValuesTest {
    private static final Class<IndexOutOfBoundsException> INDEX = IndexOutOfBoundsException.class;
    private static final Class<IllegalArgumentException> ARGUMENT = IllegalArgumentException.class;
    /**
     * Tray 0 has shelf 0 (height 6) with letter 0 2 0 (8 by 6) and letter 2 1 0 (6 by 1), and shelf 1 (height 8) with
     * letter 1 1 1 (4 by 8); tray 1 has none. Letter 3 3 2 (22 by 22) and letter 3 2 2 (16 by 16) are in the street,
     * that came first. The line is 1; of it are letter 2 1 0 and letter 3 2 2.
     */
    private static final String LAID = "cut 0 4 3; cut 1 2 6; cut 2 6 1; cut 3 6 6; use 0 2 0; use 1 1 1; use 2 1 0; "
            + "use 3 3 2; newLine; use 2 1 0; use 3 2 2; addTray; ";

    public static void main(String[] args) {
        letter();
        sign();
        tray();
        shelf();
        at();
        street();
        whole();
        Check.end();
    }

    private static void values(String calls, String call, int first, long... due) {
        TypeTrays trays = Calls.after(calls);
        for (int index = 0; index < due.length; index++) {
            Calls.due(trays, call.replace("#", Integer.toString(first + index)), due[index]);
        }
    }

    private static void refused(String call, Class<? extends RuntimeException> want, int... numbers) {
        for (int number : numbers) {
            Twin.refused(Calls.builder(LAID), call.replace("#", Integer.toString(number)), want);
        }
    }

    // ---- letter

    private static void letter() {
        Document part = Document.part("Promise 8");
        part.holds("Returns a value of a letter.", () -> values(LAID, "letter 0 2 0 #", 0, 0, 0, 0, 8, 6, 1, 0, 1, 0));
        part.holds("`sign`: 0 to 15", () -> values("cut 0 3 1; cut 15 5 1", "letter 0 1 0 #", 3, 3, 1));
        part.holds("`size`: 1 to 3", () -> {
            values("", "letter 15 # 0 3", 1, 2, 4, 6);
            values("use 0 3 0", "letter 0 # 0 5", 1, -1, -1, 1);
        });
        part.holds("`blur`: 0 to 2", () -> {
            values("", "letter 15 3 # 4", 0, 6, 8, 10);
            values("use 0 1 2", "letter 0 1 # 5", 0, -1, -1, 1);
        });
        part.holds("`what`: 0 tray (NONE in the street),", SentencesOfValuesTest::trayOfALetter);
        part.holds("1 x, 2 y of its upper edge (both NONE in the street),", SentencesOfValuesTest::placeOfALetter);
        part.holds("3 width, 4 height,", SentencesOfValuesTest::sizesOfALetter);
        part.holds("5 latest use,", SentencesOfValuesTest::latestUseOfALetter);
        part.holds("6 its line,", SentencesOfValuesTest::lineOfALetter);
        part.holds("7 how often it was used since it was made, the use that made it counted,",
                SentencesOfValuesTest::usesOfALetter);
        part.holds("8 number of its shelf (NONE in the street)", SentencesOfValuesTest::shelfOfALetter);
        part.holds("Returns that value; NONE if it is neither laid nor in the street (but 3 and 4).",
                SentencesOfValuesTest::valuesOfALetterThatIsNotThere);
        part.holds("Throws `IndexOutOfBoundsException` if there is no such sign",
                () -> refused("letter # 1 0 0", INDEX, -1, 16, Integer.MIN_VALUE, Integer.MAX_VALUE));
        part.holds("Throws `IllegalArgumentException` if size, blur or what is out of range", () -> {
            refused("letter 0 # 0 3", ARGUMENT, 0, 4, -1, Integer.MIN_VALUE, Integer.MAX_VALUE);
            refused("letter 0 2 # 3", ARGUMENT, -1, 3, Integer.MIN_VALUE, Integer.MAX_VALUE);
            refused("letter 0 2 0 #", ARGUMENT, -1, 9, Integer.MIN_VALUE, Integer.MAX_VALUE);
        });
        part.end();
    }

    private static void trayOfALetter() {
        values(LAID, "letter 1 1 1 #", 0, 0);
        values(LAID, "letter 3 3 2 #", 0, -1);
        values(LAID + "use 3 3 0", "letter 3 3 0 #", 0, 1);
        values(LAID + "addTray; use 3 3 0; use 3 3 1", "letter 3 3 1 #", 0, 2);
    }

    private static void placeOfALetter() {
        values(LAID, "letter 1 1 1 #", 1, 0, 6);
        values(LAID, "letter 2 1 0 #", 1, 8, 0);
        values(LAID, "letter 3 3 2 #", 1, -1, -1);
        values("cut 0 6 6; use 0 3 2; use 1 1 0", "letter 1 1 0 #", 1, 22, 0);
        values("cut 0 6 6; use 0 3 2; cut 1 6 2; use 1 1 0", "letter 1 1 0 #", 1, 0, 22);
    }

    private static void sizesOfALetter() {
        values(LAID, "letter 0 2 0 #", 3, 8, 6);
        values(LAID, "letter 3 3 2 #", 3, 22, 22);
        values("cut 5 1 1", "letter 5 1 0 #", 3, 1, 1);
        values("cut 5 1 6", "letter 5 3 2 #", 3, 7, 22);
    }

    private static void latestUseOfALetter() {
        values(LAID, "letter 0 2 0 #", 5, 1);
        values(LAID, "letter 2 1 0 #", 5, 5);
        values(LAID, "letter 3 3 2 #", 5, 4);
        values(LAID + "use 3 3 2", "letter 3 3 2 #", 5, 7);
    }

    private static void lineOfALetter() {
        values(LAID, "letter 0 2 0 #", 6, 0);
        values(LAID, "letter 2 1 0 #", 6, 1);
        values(LAID, "letter 3 3 2 #", 6, 0);
        values(LAID, "letter 3 2 2 #", 6, 1);
        values(LAID + "newLine", "letter 3 2 2 #", 6, 1);
    }

    private static void usesOfALetter() {
        values(LAID, "letter 0 2 0 #", 7, 1);
        values(LAID, "letter 2 1 0 #", 7, 2);
        values(LAID + "use 3 3 2; use 3 3 2", "letter 3 3 2 #", 7, 3);
        values(LAID + "drop 2 1 0; use 2 1 0", "letter 2 1 0 #", 7, 1);
        values(LAID + "drop 3 3 2; use 3 3 2", "letter 3 3 2 #", 7, 1);
    }

    private static void shelfOfALetter() {
        values(LAID, "letter 0 2 0 #", 8, 0);
        values(LAID, "letter 1 1 1 #", 8, 1);
        values(LAID, "letter 3 2 2 #", 8, -1);
        values(LAID + "use 3 3 0", "letter 3 3 0 #", 8, 0);
        values(LAID + "drop 0 2 0; drop 2 1 0; closeShelves", "letter 1 1 1 #", 8, 0);
    }

    private static void valuesOfALetterThatIsNotThere() {
        values("", "letter 0 1 0 #", 0, -1, -1, -1, 2, 2, -1, -1, -1, -1);
        values("", "letter 15 3 2 #", 0, -1, -1, -1, 10, 10, -1, -1, -1, -1);
        values(LAID + "drop 0 2 0", "letter 0 2 0 #", 0, -1, -1, -1, 8, 6, -1, -1, -1, -1);
        values(LAID + "drop 3 3 2", "letter 3 3 2 #", 0, -1, -1, -1, 22, 22, -1, -1, -1, -1);
        values(LAID + "cut 3 1 1", "letter 3 2 2 #", 0, -1, -1, -1, 6, 6, -1, -1, -1, -1);
        values(LAID, "letter 3 3 2 #", 0, -1, -1, -1, 22, 22, 4, 0, 1, -1);
    }

    // ---- sign

    private static void sign() {
        Document part = Document.part("Promise 9");
        part.holds("Returns a value of a sign.", () -> values(LAID, "sign 0 #", 0, 4, 3, 1, 0));
        part.holds("`sign`: 0 to 15", () -> values("cut 0 3 3; cut 15 5 5; use 15 1 0", "sign 15 #", 0, 5, 5, 1, 0));
        part.holds("`what`: 0 width, 1 height,", () -> {
            values("", "sign 0 #", 0, 2, 2);
            values("cut 0 1 6; cut 1 6 1", "sign 0 #", 0, 1, 6);
            values("cut 0 1 6; cut 1 6 1", "sign 1 #", 0, 6, 1);
        });
        part.holds("2 letters of it that are laid,", () -> {
            values(LAID, "sign 3 #", 2, 0);
            values(LAID + "use 0 1 0; use 0 1 1", "sign 0 #", 2, 3);
            values("use 0 1 0; drop 0 1 0", "sign 0 #", 2, 0);
        });
        part.holds("3 letters of it in the street", () -> {
            values(LAID, "sign 3 #", 3, 2);
            values(LAID, "sign 0 #", 3, 0);
            values(LAID + "drop 3 3 2", "sign 3 #", 3, 1);
            values("cut 0 6 6; cut 1 6 6; use 1 3 2; use 0 2 2; use 0 3 0; use 0 3 1; use 0 3 2", "sign 0 #", 3, 4);
        });
        part.holds("Returns that value.", () -> {
            values(LAID, "sign 15 #", 0, 2, 2, 0, 0);
            values("use 0 1 0", "sign 0 #", 0, 2, 2, 1, 0);
            values("use 1 2 0; use 1 1 0; drop 1 2 0", "sign 1 #", 0, 2, 2, 1, 0);
            values("cut 0 6 6; cut 1 6 6; use 1 3 2; use 0 1 0", "sign 0 #", 0, 6, 6, 0, 1);
        });
        part.holds("Throws `IndexOutOfBoundsException` if there is no such sign",
                () -> refused("sign # 0", INDEX, -1, 16, Integer.MIN_VALUE, Integer.MAX_VALUE));
        part.holds("Throws `IllegalArgumentException` if what is out of range",
                () -> refused("sign 15 #", ARGUMENT, -1, 4, Integer.MIN_VALUE, Integer.MAX_VALUE));
        part.end();
    }

    // ---- tray

    private static void tray() {
        Document part = Document.part("Promise 10");
        part.holds("Returns a value of a tray.", () -> values(LAID, "tray 0 #", 0, 2, 14, 3, 48 + 6 + 32));
        part.holds("`tray`: number of a tray", () -> {
            values(LAID + "use 3 3 0", "tray # 0", 0, 2, 1);
            values(LAID + "addTray; use 3 3 0; use 3 3 1", "tray # 1", 0, 14, 18, 20);
        });
        part.holds("`what`: 0 shelves,", () -> {
            values("", "tray 0 #", 0, 0);
            values(LAID + "drop 1 1 1", "tray 0 #", 0, 2);
            values(LAID + "drop 1 1 1; closeShelves", "tray 0 #", 0, 1);
        });
        part.holds("1 sum of their heights,", () -> {
            values("", "tray 0 #", 1, 0);
            values("cut 0 6 6; use 0 3 2; cut 1 6 2; use 1 1 0", "tray 0 #", 1, 24);
        });
        part.holds("2 letters,", () -> {
            values(LAID + "drop 0 2 0; drop 2 1 0", "tray 0 #", 2, 1);
            values(LAID + "drop 0 2 0; drop 2 1 0; drop 1 1 1", "tray 0 #", 2, 0);
            values(LAID, "tray 1 #", 2, 0);
        });
        part.holds("3 sum of width * height of these", () -> {
            values("", "tray 0 #", 3, 0);
            values("cut 0 6 6; use 0 3 2; use 0 3 1", "tray 0 #", 3, 484);
            values("cut 0 1 3; use 0 2 1", "tray 0 #", 3, 4 * 8);
        });
        part.holds("Returns that value.", () -> {
            values(LAID, "tray 1 #", 0, 0, 0, 0, 0);
            values("use 0 1 0", "tray 0 #", 0, 1, 2, 1, 4);
            values("use 0 1 0; use 1 1 0; drop 0 1 0", "tray 0 #", 0, 1, 2, 1, 4);
        });
        part.holds("Throws `IndexOutOfBoundsException` if there is no such tray", () -> {
            refused("tray # 0", INDEX, -1, 2, 3, Integer.MIN_VALUE, Integer.MAX_VALUE);
            Calls.thrown(new TypeTrays(), "tray 1 0", INDEX);
            Calls.thrown(Calls.after("addTray; undo"), "tray 1 0", INDEX);
            Calls.thrown(Calls.after("addTray; addTray"), "tray 3 0", INDEX);
        });
        part.holds("Throws `IllegalArgumentException` if what is out of range",
                () -> refused("tray 1 #", ARGUMENT, -1, 4, Integer.MIN_VALUE, Integer.MAX_VALUE));
        part.end();
    }

    // ---- shelf

    private static void shelf() {
        Document part = Document.part("Promise 11");
        part.holds("Returns a value of a shelf.", () -> values(LAID, "shelf 0 0 #", 0, 0, 6, 2, 1, 10, 5, 1));
        part.holds("`tray`: number of a tray", () -> {
            values(LAID + "use 3 3 0", "shelf # 0 1", 0, 6, 18);
            values(LAID + "addTray; use 3 3 0; use 3 3 1", "shelf # 0 1", 0, 6, 18, 20);
        });
        part.holds("`shelf`: number of a shelf of the tray", () -> {
            values(LAID, "shelf 0 # 1", 0, 6, 8);
            values("cut 0 6 1; use 0 1 0; use 0 2 0; use 0 3 0; use 0 1 1; use 0 2 1", "shelf 0 # 1", 0, 1, 2, 3, 3, 4);
        });
        shelfValues(part);
        part.holds("Throws `IndexOutOfBoundsException` if there is no such tray or shelf", () -> {
            refused("shelf # 0 0", INDEX, -1, 1, 2, Integer.MIN_VALUE, Integer.MAX_VALUE);
            refused("shelf 0 # 0", INDEX, -1, 2, Integer.MIN_VALUE, Integer.MAX_VALUE);
            Calls.thrown(new TypeTrays(), "shelf 0 0 0", INDEX);
            Calls.thrown(Calls.after("use 0 1 0; drop 0 1 0; closeShelves"), "shelf 0 0 0", INDEX);
            Calls.thrown(Calls.after("use 0 1 0; undo"), "shelf 0 0 0", INDEX);
        });
        part.holds("Throws `IllegalArgumentException` if what is out of range",
                () -> refused("shelf 0 1 #", ARGUMENT, -1, 7, Integer.MIN_VALUE, Integer.MAX_VALUE));
        part.end();
    }

    private static void shelfValues(Document part) {
        part.holds("`what`: 0 y of its upper edge,", () -> {
            values(LAID, "shelf 0 # 0", 0, 0, 6);
            values("cut 0 6 6; use 0 3 2; cut 1 6 2; use 1 1 0", "shelf 0 # 0", 0, 0, 22);
        });
        part.holds("1 height,", () -> {
            values("cut 0 1 1; use 0 1 0", "shelf 0 0 #", 1, 1);
            values("cut 0 6 6; use 0 3 2; drop 0 3 2", "shelf 0 0 #", 1, 22);
        });
        part.holds("2 letters,", () -> {
            values(LAID, "shelf 0 # 2", 0, 2, 1);
            values(LAID + "drop 1 1 1", "shelf 0 # 2", 0, 2, 0);
        });
        part.holds("3 gaps,", SentencesOfValuesTest::gapsOfAShelf);
        part.holds("4 width of its widest gap (0 without gaps),", SentencesOfValuesTest::widestGapOfAShelf);
        part.holds("5 greatest latest use of its letters (NONE without letters),", () -> {
            values(LAID, "shelf 0 # 5", 0, 5, 2);
            values(LAID + "use 0 2 0", "shelf 0 # 5", 0, 7, 2);
            values(LAID + "use 0 2 0; drop 0 2 0", "shelf 0 # 5", 0, 5, 2);
            values(LAID + "drop 1 1 1", "shelf 0 # 5", 0, 5, -1);
        });
        part.holds("6 1 if a letter of it is of the present line or 0 if not", () -> {
            values(LAID, "shelf 0 # 6", 0, 1, 0);
            values(LAID + "newLine", "shelf 0 # 6", 0, 0, 0);
            values(LAID + "drop 2 1 0", "shelf 0 # 6", 0, 0, 0);
            values("use 0 1 0; drop 0 1 0", "shelf 0 # 6", 0, 0);
        });
        part.holds("Returns that value.", () -> {
            values(LAID, "shelf 0 1 #", 0, 6, 8, 1, 1, 20, 2, 0);
            values("use 0 1 0", "shelf 0 0 #", 0, 0, 2, 1, 1, 22, 1, 1);
            values("use 0 1 0; use 1 1 0; drop 0 1 0", "shelf 0 0 #", 0, 0, 2, 1, 2, 20, 2, 1);
        });
    }

    private static void gapsOfAShelf() {
        String four = Calls.cuts(4, 6, 1) + Calls.forEach("use # 1 0", 0, 1, 2, 3);
        values(four, "shelf 0 0 #", 3, 0);
        values(four + "drop 0 1 0", "shelf 0 0 #", 3, 1);
        values(four + "drop 0 1 0; drop 3 1 0", "shelf 0 0 #", 3, 2);
        values(four + "drop 0 1 0; drop 1 1 0", "shelf 0 0 #", 3, 1);
        values(four + Calls.forEach("drop # 1 0", 0, 1, 2, 3), "shelf 0 0 #", 3, 1);
        values(Calls.cuts(3, 6, 1) + "cut 0 1 1; cut 2 1 1; use 0 1 0; use 1 1 0; use 2 1 0; drop 0 1 0; drop 2 1 0",
                "shelf 0 0 #", 3, 2);
    }

    private static void widestGapOfAShelf() {
        String four = Calls.cuts(4, 6, 1) + Calls.forEach("use # 1 0", 0, 1, 2, 3);
        values(four, "shelf 0 0 #", 4, 0);
        values(four + "drop 0 1 0; drop 2 1 0; drop 3 1 0", "shelf 0 0 #", 4, 12);
        values(four + "drop 0 1 0; drop 1 1 0; drop 3 1 0", "shelf 0 0 #", 4, 12);
        values("use 0 1 0; drop 0 1 0", "shelf 0 0 #", 4, 24);
        values("cut 0 6 6; use 0 3 2; cut 1 1 1; use 1 1 0", "shelf 0 0 #", 4, 1);
    }

    // ---- at and street

    private static void at() {
        Document part = Document.part("Promise 12");
        part.holds("Returns what is in the trays at a place.", () -> values(LAID, "at 0 # 0", 7, 20, 210));
        part.holds("`tray`: number of a tray", () -> {
            values(LAID + "use 3 3 0", "at # 0 0", 0, 20, 330);
            values(LAID + "addTray; use 3 3 0; use 3 3 1", "at # 17 17", 0, -1, 330, 331);
        });
        part.holds("`x`: 0 to 23", () -> values("cut 0 6 6; use 0 3 2; use 1 1 0", "at 0 # 0", 0, 32, 32, 32, 32, 32, 32,
                32, 32, 32, 32, 32, 32, 32, 32, 32, 32, 32, 32, 32, 32, 32, 32, 110, 110));
        part.holds("`y`: 0 to 23", () -> values("cut 0 6 6; use 0 3 2; cut 1 6 2; use 1 1 0", "at 0 0 #", 0, 32, 32, 32,
                32, 32, 32, 32, 32, 32, 32, 32, 32, 32, 32, 32, 32, 32, 32, 32, 32, 32, 32, 110, 110));
        part.holds("Returns 100 * its sign + 10 * its size + its blur, for the letter that covers the place;", () -> {
            values("use 0 1 0", "at 0 0 #", 0, 10);
            values("use 15 3 2", "at 0 0 #", 0, 1532);
            values(LAID, "at 0 3 #", 5, 20, 111);
        });
        part.holds("NONE if none does.", SentencesOfValuesTest::placesThatNoLetterCovers);
        part.holds("Throws `IndexOutOfBoundsException` if there is no such tray", () -> {
            refused("at # 0 0", INDEX, -1, 2, Integer.MIN_VALUE, Integer.MAX_VALUE);
            Calls.thrown(new TypeTrays(), "at 1 0 0", INDEX);
        });
        part.holds("Throws `IllegalArgumentException` if x or y is out of range", () -> {
            refused("at 0 # 0", ARGUMENT, -1, 24, Integer.MIN_VALUE, Integer.MAX_VALUE);
            refused("at 0 0 #", ARGUMENT, -1, 24, Integer.MIN_VALUE, Integer.MAX_VALUE);
        });
        part.end();
    }

    private static void placesThatNoLetterCovers() {
        values("", "at 0 0 #", 0, -1);
        values("", "at 0 23 #", 23, -1);
        values(LAID, "at 0 14 #", 0, -1);
        values(LAID, "at 0 13 #", 0, 210, -1);
        values(LAID, "at 0 4 #", 6, -1);
        values(LAID, "at 0 0 #", 13, 111, -1);
        values(LAID + "drop 0 2 0", "at 0 0 #", 0, -1);
        values(LAID, "at 1 0 #", 0, -1);
    }

    private static void street() {
        Document part = Document.part("Promise 13");
        part.holds("Returns a letter of the street.", () -> values(LAID, "street #", 1, 322));
        part.holds("`index`: 0 for the one that came first, and so on", SentencesOfValuesTest::orderOfTheStreet);
        part.holds("Returns 100 * its sign + 10 * its size + its blur;", () -> {
            values("cut 15 6 6; use 15 3 2; use 15 3 1", "street #", 0, 1531);
            values("cut 0 6 6; use 0 3 2; use 0 3 0", "street #", 0, 30);
        });
        part.holds("NONE if there are not so many.", () -> {
            values("", "street #", 0, -1, -1);
            values(LAID, "street #", 2, -1, -1, -1);
            values(LAID, "street #", Integer.MAX_VALUE, -1);
            String full = Calls.cuts(5, 6, 6) + Calls.forEach("use # 3 2", 0, 1, 2, 3, 4);
            values(full, "street #", 3, 432, -1, -1, -1, -1, -1, -1, -1, -1, -1, -1, -1, -1, -1);
            values(full, "street #", Integer.MAX_VALUE - 7, -1, -1, -1, -1, -1, -1, -1, -1);
        });
        part.holds("Throws `IllegalArgumentException` if index is negative",
                () -> refused("street #", ARGUMENT, -1, -2, Integer.MIN_VALUE));
        part.end();
    }

    private static void orderOfTheStreet() {
        String five = Calls.cuts(6, 6, 6) + Calls.forEach("use # 3 2", 0, 4, 1, 3, 2);
        values(five, "street #", 0, 432, 132, 332, 232);
        values(five + "use 4 3 2", "street #", 0, 432, 132, 332, 232);
        values(five + "drop 1 3 2", "street #", 0, 432, 332, 232, -1);
        values(five + "drop 4 3 2; use 4 3 2", "street #", 0, 132, 332, 232, 432);
        values(five + "newLine; use 0 3 2; use 5 3 2", "street #", 0, 132, 332, 232, 532);
        values(five + "drop 4 3 2; undo", "street #", 0, 432, 132, 332, 232);
    }

    // ---- whole

    private static void whole() {
        Document part = Document.part("Promise 14");
        part.holds("Returns a value of the whole.",
                () -> values(LAID, "whole #", 0, 2, 2, 3, 2, 1, 6, 1, 5, 0, 48 + 32 + 6 + 484 + 256, 2, 86, 0));
        part.holds("`what`: 0 trays,", () -> {
            values("", "whole #", 0, 1);
            values("addTray; addTray", "whole #", 0, 3);
        });
        part.holds("1 shelves,", () -> {
            values("", "whole #", 1, 0);
            values(LAID + "use 3 3 0", "whole #", 1, 3);
            values(LAID + "drop 0 2 0; drop 2 1 0; drop 1 1 1; closeShelves", "whole #", 1, 0);
        });
        part.holds("2 letters that are laid, 3 letters in the street,", () -> {
            values("", "whole #", 2, 0, 0);
            values(LAID + "drop 3 3 2; drop 0 2 0", "whole #", 2, 2, 1);
            values(Calls.cuts(6, 6, 6) + Calls.forEach("use # 3 2", 0, 1, 2, 3, 4), "whole #", 2, 1, 4);
        });
        part.holds("4 line, 5 clock,", () -> {
            values("", "whole #", 4, 0, 0);
            values(LAID + "newLine; newLine; drop 0 2 0", "whole #", 4, 3, 6);
        });
        part.holds("10 letters of the present line,", () -> {
            values("", "whole #", 10, 0);
            values(LAID + "use 3 3 2", "whole #", 10, 3);
            values(LAID + "drop 2 1 0", "whole #", 10, 1);
            values(LAID + "newLine", "whole #", 10, 0);
        });
        part.holds("11 sum of width * height of all letters that are laid,", () -> {
            values("", "whole #", 11, 0);
            values(LAID + "use 3 3 0", "whole #", 11, 86 + 324);
            values("use 0 1 0", "whole #", 11, 4);
        });
        part.holds("12 length of the command text", SentencesOfValuesTest::lengthOfTheText);
        wholeThatIsCounted(part);
        part.holds("Returns that value.", () -> {
            values("", "whole #", 0, 1, 0, 0, 0, 0, 0, 0, 0, 0, 0, 0, 0, 0);
            values("use 0 1 0; use 1 1 0; drop 0 1 0", "whole #", 0, 1, 1, 1, 0, 0, 2, 0, 2, 1, 8, 1, 4, 0);
            values("cut 0 6 6; cut 1 6 6; use 1 3 2; use 0 1 0; drop 1 3 2", "whole #", 0, 1, 1, 0, 1, 0, 2, 0, 2, 1,
                    520, 1, 0, 0);
        });
        part.holds("Throws `IllegalArgumentException` if what is out of range",
                () -> refused("whole #", ARGUMENT, -1, 13, Integer.MIN_VALUE, Integer.MAX_VALUE));
        part.end();
    }

    private static void wholeThatIsCounted(Document part) {
        part.holds("6 hits, 7 letters that were made,", () -> {
            values("", "whole #", 6, 0, 0);
            values(LAID + "use 3 3 2; use 0 2 0", "whole #", 6, 3, 5);
            values(LAID + "drop 0 2 0; use 0 2 0", "whole #", 6, 1, 6);
            values(LAID + "use 0 2 0; undo; use 5 1 0; undo", "whole #", 6, 1, 5);
        });
        part.holds("8 letters that were taken away, by whatever,", SentencesOfValuesTest::takenByWhatever);
        part.holds("9 what was inked, in all,", () -> {
            values("", "whole #", 9, 0);
            values("use 0 1 0; use 0 1 0; use 0 1 1", "whole #", 9, 4 + 8);
            values("use 0 1 0; drop 0 1 0; use 0 1 0", "whole #", 9, 8);
            values("use 0 1 0; use 0 2 0; undo", "whole #", 9, 4);
        });
    }

    private static void takenByWhatever() {
        values("", "whole #", 8, 0);
        values(LAID + "drop 0 2 0", "whole #", 8, 1);
        values(LAID + "drop 3 3 2", "whole #", 8, 1);
        values(LAID + "cut 3 6 5", "whole #", 8, 2);
        values(Calls.cuts(5, 6, 6) + "use 0 3 0; use 1 1 0; newLine; use 2 3 0", "whole #", 8, 2);
        values(Calls.cuts(6, 6, 6) + Calls.forEach("use # 3 2", 0, 1, 2, 3, 4) + "newLine; use 0 3 2; use 5 3 2",
                "whole #", 8, 1);
        values(LAID + "drop 0 2 0; undo", "whole #", 8, 0);
        values("use 0 1 0; drop 0 1 0; closeShelves", "whole #", 8, 1);
    }

    private static void lengthOfTheText() {
        TypeTrays trays = new TypeTrays();
        Calls.due(trays, "whole 12", 0);
        Check.type(trays, "line;" + " ".repeat(145));
        Calls.due(trays, "whole 12", 150);
        Calls.make(trays, "runCommands; undo");
        Calls.due(trays, "whole 12", 150);
        Calls.make(trays, "clearCommands");
        Calls.due(trays, "whole 12", 0);
    }
}
