/** The sentences of promises 15 to 19, each with a test of its own. */
public final class SentencesOfWhatIfTest {
    private static final Class<IndexOutOfBoundsException> INDEX = IndexOutOfBoundsException.class;
    private static final Class<IllegalArgumentException> ARGUMENT = IllegalArgumentException.class;
    private static final String FULL_STREET =
            Calls.cuts(8, 6, 6) + Calls.forEach("use # 3 2", 0, 1, 2, 3, 4);
    /** On the shelf stand letters 0 3 0 and 1 1 0 of line 0; the line is 1. */
    private static final String OF_AN_OLDER_LINE = Calls.cuts(8, 6, 6) + "use 0 3 0; use 1 1 0; newLine; ";

    public static void main(String[] args) {
        rule();
        takenBy();
        costOf();
        oldest();
        greatestGap();
        Check.end();
    }

    private static void askedAfter(String calls, String call, long want) {
        Check.due(call + " after " + calls, want, () -> Calls.answer(Calls.after(calls), call));
    }

    /** The question and the use itself give the same, for letters of all sizes and blurs. */
    private static void asUseDoes(String calls, String question) {
        for (int letter = 0; letter < 16 * 9; letter += 5) {
            String numbers = " " + letter / 9 + " " + (letter / 3 % 3 + 1) + " " + letter % 3;
            String want = Check.answerOf(() -> byUse(Calls.after(calls), question, "use" + numbers));
            String got = Check.answerOf(() -> Calls.answer(Calls.after(calls), question + numbers));
            Check.compare(question + numbers + " after " + calls, want.startsWith("throws") ? "-1" : want, got);
        }
    }

    private static long byUse(TypeTrays trays, String question, String use) {
        int what = question.equals("takenBy") ? 8 : 9;
        long before = trays.whole(what);
        long rule = Calls.answer(trays, use);
        return question.equals("rule") ? rule : trays.whole(what) - before;
    }

    private static void asUseDoes(String question) {
        asUseDoes("", question);
        asUseDoes(FULL_STREET, question);
        asUseDoes(FULL_STREET + "newLine", question);
        asUseDoes(FULL_STREET + "newLine; use 0 3 2", question);
        asUseDoes(OF_AN_OLDER_LINE, question);
        asUseDoes(OF_AN_OLDER_LINE + "use 0 3 0; use 2 3 0; addTray; use 3 2 0", question);
    }

    // ---- rule

    private static void rule() {
        Document part = Document.part("Promise 15");
        part.holds("Tells by which rule a letter would find its place if it was used now.", () -> asUseDoes("rule"));
        ranges(part, "rule", 2);
        part.holds("Returns 0 for a hit,", () -> {
            askedAfter(FULL_STREET, "rule 0 3 2", 0);
            askedAfter(FULL_STREET, "rule 1 3 2", 0);
            askedAfter(FULL_STREET + "newLine", "rule 4 3 2", 0);
            askedAfter(FULL_STREET + "drop 0 3 2", "rule 0 3 2", 1);
        });
        part.holds("1 to 4,", () -> {
            askedAfter("use 0 1 0", "rule 1 1 0", 1);
            askedAfter("", "rule 1 1 0", 2);
            askedAfter(OF_AN_OLDER_LINE, "rule 2 3 0", 3);
            askedAfter(OF_AN_OLDER_LINE + "use 0 3 0", "rule 2 3 0", 4);
        });
        part.holds("or NONE if it cannot be used.", () -> {
            askedAfter(FULL_STREET, "rule 5 3 2", -1);
            askedAfter(FULL_STREET, "rule 9 1 0", 1);
            askedAfter(FULL_STREET + "drop 4 3 2", "rule 5 3 2", 4);
        });
        exceptions(part, "rule");
        part.end();
    }

    private static void ranges(Document part, String question, long atFirst) {
        part.holds("`sign`: 0 to 15", () -> {
            askedAfter("use 1 1 0; use 14 1 0", question + " 0 3 2", atFirst);
            askedAfter("use 1 1 0; use 14 1 0", question + " 15 3 2", atFirst);
        });
        part.holds("`size`: 1 to 3", () -> {
            askedAfter("cut 0 6 6; use 0 1 0; use 0 3 0", question + " 0 1 0", 0);
            askedAfter("cut 0 6 6; use 0 1 0; use 0 3 0", question + " 0 3 0", 0);
        });
        part.holds("`blur`: 0 to 2", () -> {
            askedAfter("cut 0 6 6; use 0 1 0; use 0 1 2", question + " 0 1 0", 0);
            askedAfter("cut 0 6 6; use 0 1 0; use 0 1 2", question + " 0 1 2", 0);
        });
    }

    private static void exceptions(Document part, String question) {
        part.holds("Throws `IndexOutOfBoundsException` if there is no such sign", () -> {
            refused(question + " # 3 2", INDEX, -1, 16, Integer.MIN_VALUE, Integer.MAX_VALUE);
            refused(question + " # 0 3", INDEX, -1, 16);
        });
        part.holds("Throws `IllegalArgumentException` if size or blur is out of range", () -> {
            refused(question + " 5 # 2", ARGUMENT, 0, 4, -1, Integer.MIN_VALUE, Integer.MAX_VALUE);
            refused(question + " 5 3 #", ARGUMENT, -1, 3, Integer.MIN_VALUE, Integer.MAX_VALUE);
        });
    }

    private static void refused(String call, Class<? extends RuntimeException> want, int... numbers) {
        for (int number : numbers) {
            Twin.refused(Calls.builder(FULL_STREET), call.replace("#", Integer.toString(number)), want);
        }
    }

    // ---- takenBy

    private static void takenBy() {
        Document part = Document.part("Promise 16");
        part.holds("Tells how many letters would be taken away if a letter was used now.", () -> asUseDoes("takenBy"));
        ranges(part, "takenBy", 0);
        part.holds("Returns the number;", () -> {
            TypeTrays trays = Calls.after(OF_AN_OLDER_LINE);
            Calls.due(trays, "takenBy 2 3 0", 2);
            Calls.due(trays, "takenBy 9 1 0", 0);
            Calls.due(trays, "takenBy 0 3 0", 0);
            askedAfter("", "takenBy 0 3 2", 0);
            askedAfter("use 0 1 0", "takenBy 0 1 0", 0);
            askedAfter("use 0 1 0", "takenBy 1 1 0", 0);
            askedAfter(OF_AN_OLDER_LINE, "takenBy 2 3 0", 2);
            askedAfter(OF_AN_OLDER_LINE + "drop 0 3 0", "takenBy 2 3 1", 0);
            askedAfter(OF_AN_OLDER_LINE + "drop 1 1 0", "takenBy 2 3 0", 1);
            askedAfter(OF_AN_OLDER_LINE + "use 1 1 0", "takenBy 2 3 0", 0);
            askedAfter(FULL_STREET + "newLine; use 0 3 2", "takenBy 5 3 2", 1);
            askedAfter(FULL_STREET + "newLine; use 0 3 2; drop 4 3 2", "takenBy 5 3 2", 0);
            askedAfter(FULL_STREET + "newLine; use 0 3 2", "takenBy 4 3 2", 0);
        });
        part.holds("NONE if it cannot be used.", () -> {
            askedAfter(FULL_STREET, "takenBy 5 3 2", -1);
            askedAfter(FULL_STREET, "takenBy 4 3 2", 0);
            TypeTrays trays = Calls.after(FULL_STREET);
            Calls.due(trays, "takenBy 5 3 2", -1);
            Calls.due(trays, "takenBy 9 1 0", 0);
            Calls.due(trays, "takenBy 5 3 2", -1);
        });
        exceptions(part, "takenBy");
        part.end();
    }

    // ---- costOf

    private static void costOf() {
        Document part = Document.part("Promise 17");
        part.holds("Returns what it would cost to use a letter now.", () -> asUseDoes("costOf"));
        ranges(part, "costOf", 100);
        part.holds("Returns the cost;", () -> {
            askedAfter("cut 0 1 1", "costOf 0 1 0", 1);
            askedAfter("cut 0 6 6", "costOf 0 3 2", 484);
            askedAfter("cut 0 1 1; use 0 1 0", "costOf 0 1 1", 4);
            askedAfter("cut 0 1 1; use 0 1 0", "costOf 0 1 2", 12);
            askedAfter("cut 0 1 1; use 0 1 1", "costOf 0 1 0", 1);
            askedAfter("cut 0 6 6; cut 1 6 6; use 0 3 2; use 1 3 0", "costOf 1 3 2", 242);
            askedAfter(OF_AN_OLDER_LINE, "costOf 1 3 0", 324);
            askedAfter(OF_AN_OLDER_LINE, "costOf 1 1 1", 32);
        });
        part.holds("0 for a hit;", () -> {
            askedAfter("use 0 1 0", "costOf 0 1 0", 0);
            askedAfter(FULL_STREET, "costOf 4 3 2", 0);
        });
        part.holds("NONE if it cannot be used.", () -> {
            askedAfter(FULL_STREET, "costOf 5 3 2", -1);
            askedAfter(FULL_STREET, "costOf 5 3 0", -1);
            askedAfter(FULL_STREET + "newLine", "costOf 5 3 0", 324);
        });
        exceptions(part, "costOf");
        part.end();
    }

    // ---- oldest and greatestGap

    private static void oldest() {
        Document part = Document.part("Promise 18");
        part.holds("Returns the letter with the least latest use, of all that are laid or in the street.", () -> {
            askedAfter(FULL_STREET, "oldest", 32);
            askedAfter(FULL_STREET + "use 0 3 2", "oldest", 132);
            askedAfter(FULL_STREET + "use 0 3 2; use 1 3 2; use 2 3 2; use 3 3 2", "oldest", 432);
            askedAfter(FULL_STREET + "drop 0 3 2", "oldest", 132);
            askedAfter(FULL_STREET + "newLine", "oldest", 32);
            askedAfter(FULL_STREET + "cut 0 1 1; cut 1 1 1", "oldest", 232);
            askedAfter("use 1 1 0; use 0 1 0", "oldest", 110);
        });
        part.holds("Returns 100 * its sign + 10 * its size + its blur;", () -> {
            askedAfter("use 0 1 0", "oldest", 10);
            askedAfter("use 15 3 2", "oldest", 1532);
        });
        part.holds("NONE if there is none.", () -> {
            askedAfter("", "oldest", -1);
            askedAfter("use 0 1 0; drop 0 1 0", "oldest", -1);
            askedAfter("use 0 1 0; undo", "oldest", -1);
        });
        part.end();
    }

    private static void greatestGap() {
        Document part = Document.part("Promise 19");
        part.holds("Returns the greatest area of a gap: its width * the height of its shelf.", () -> {
            askedAfter("use 0 1 0", "greatestGap", 44);
            askedAfter("cut 0 6 6; use 0 3 2", "greatestGap", 44);
            askedAfter("cut 0 6 6; use 0 3 2; drop 0 3 2", "greatestGap", 528);
            askedAfter("use 0 1 0; cut 1 6 6; use 1 3 0", "greatestGap", 108);
            askedAfter("cut 0 6 1; use 0 1 0; cut 1 6 6; use 1 3 2", "greatestGap", 44);
            askedAfter("cut 0 6 6; use 0 3 2; addTray; cut 1 6 3; use 1 3 0", "greatestGap", 54);
        });
        part.holds("Returns the area;", SentencesOfWhatIfTest::areaOfTheWidestGap);
        part.holds("0 if there is no gap.", () -> {
            askedAfter("", "greatestGap", 0);
            askedAfter("addTray; addTray", "greatestGap", 0);
            askedAfter("cut 0 6 6; use 0 3 2; use 1 1 0", "greatestGap", 0);
            askedAfter("use 0 1 0; drop 0 1 0; closeShelves", "greatestGap", 0);
        });
        part.end();
    }

    private static void areaOfTheWidestGap() {
        String four = Calls.cuts(4, 6, 1) + Calls.forEach("use # 1 0", 0, 1, 2, 3);
        askedAfter(four, "greatestGap", 0);
        askedAfter(four + "drop 0 1 0", "greatestGap", 6);
        askedAfter(four + "drop 0 1 0; drop 2 1 0", "greatestGap", 6);
        askedAfter(four + "drop 0 1 0; drop 2 1 0; drop 3 1 0", "greatestGap", 12);
        askedAfter(four + "drop 0 1 0; drop 1 1 0; drop 3 1 0", "greatestGap", 12);
    }
}
