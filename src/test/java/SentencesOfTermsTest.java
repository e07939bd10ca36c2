import java.util.Random;

/** The sentences of the document from its beginning to 'Using a letter', each with a test of its own. */
public final class SentencesOfTermsTest {
    private static final Class<IndexOutOfBoundsException> INDEX = IndexOutOfBoundsException.class;
    private static final Class<IllegalArgumentException> ARGUMENT = IllegalArgumentException.class;
    private static final Class<IllegalStateException> STATE = IllegalStateException.class;
    /** Letter 0 3 2 stands in the tray, 1 3 2 to 4 3 2 fill the street; each is 22 wide and high; the clock is 5. */
    private static final String FULL_STREET =
            Calls.cuts(8, 6, 6) + Calls.forEach("use # 3 2", 0, 1, 2, 3, 4);

    public static void main(String[] args) {
        whatItIs();
        terms();
        signsAndLetters();
        traysAndShelves();
        usingALetter();
        Check.end();
    }

    private static void whatItIs() {
        Document part = Document.part("What it is");
        part.asksNothing("Letters of a printer that are laid in trays: trays with shelves, letters in three sizes and "
                + "blurred ones with borders, shelves that are opened and closed, free gaps, letters that are used in "
                + "a line and may not be taken away, shelves that are emptied for new letters, a street for those "
                + "that find no place, what is inked, and what-if questions;");
        part.holds("no two letters overlap,", SentencesOfTermsTest::noTwoLettersOverlap);
        part.holds("and each use finds its letter.", SentencesOfTermsTest::eachUseFindsItsLetter);
        part.holds("An object is used for at most 512 calls after it has been made;",
                SentencesOfTermsTest::theLastOf512Calls);
        part.asksNothing("what later calls answer is free.");
        part.end();
    }

    private static void terms() {
        Document part = Document.part("Terms");
        part.asksNothing("Reasons, and texts of commands.");
        part.asksNothing("All numbers are whole.");
        part.end();
    }

    private static void signsAndLetters() {
        Document part = Document.part("SIGNS AND LETTERS");
        part.holds("There are 16 signs, numbered from 0.", SentencesOfTermsTest::sixteenSigns);
        part.holds("A sign has a width and a height (1 to 6 each;", SentencesOfTermsTest::leastAndGreatestSign);
        part.holds("both 2 at first).", SentencesOfTermsTest::signsAtFirst);
        part.holds("A letter is a sign in a size (1 to 3) with a blur (0 to 2);",
                SentencesOfTermsTest::leastAndGreatestSizeAndBlur);
        part.holds("its width is that of the sign * the size + 2 * the blur, its height likewise.",
                SentencesOfTermsTest::widthAndHeightOfEachLetter);
        part.holds("When the width or height of a sign is changed,", SentencesOfTermsTest::oneOfBothIsChanged);
        part.holds("all letters of this sign that are laid or in the street are taken away.",
                SentencesOfTermsTest::allLettersOfTheSign);
        part.end();
    }

    private static void traysAndShelves() {
        Document part = Document.part("TRAYS AND SHELVES");
        part.holds("There are 1 to 3 trays (1 at first), numbered from 0.", SentencesOfTermsTest::oneToThreeTrays);
        part.holds("A tray is 24 wide and 24 high.", SentencesOfTermsTest::trayOf24);
        part.holds("Its shelves lie one below the other, without space between them, numbered from 0 at the top;",
                SentencesOfTermsTest::shelvesOneBelowTheOther);
        part.holds("a shelf has a height (1 to 24).", SentencesOfTermsTest::lowestAndHighestShelf);
        part.holds("A letter that is laid stands on a shelf, with its left edge at some x;",
                SentencesOfTermsTest::leftEdges);
        part.holds("it covers its width and its height from the top of the shelf on.",
                SentencesOfTermsTest::coversFromTheTop);
        part.holds("A gap of a shelf is a greatest row of columns of the tray that no letter of the shelf covers.",
                SentencesOfTermsTest::gapsAreGreatestRows);
        part.holds("A letter fits into a gap if it is not wider than the gap", SentencesOfTermsTest::notWider);
        part.holds("and not higher than the shelf.", SentencesOfTermsTest::notHigher);
        part.end();
    }

    private static void usingALetter() {
        Document part = Document.part("USING A LETTER");
        part.holds("There is a line, numbered from 0.", SentencesOfTermsTest::linesFrom0);
        part.holds("Each use increases the clock by 1 (0 at first);", SentencesOfTermsTest::clockFrom0);
        part.holds("the letter that is used gets this clock as its latest use, and this line as its line.",
                SentencesOfTermsTest::latestUseAndLine);
        part.holds("A letter whose line is the present one may not be taken away by the rules 3 and 4",
                SentencesOfTermsTest::lettersOfTheLineStay);
        part.holds("(but by drop() and cut()).", SentencesOfTermsTest::lettersOfTheLineAreDroppedAndCut);
        part.holds("To use a letter that is laid, or in the street, is a hit.", SentencesOfTermsTest::hits);
        part.holds("Otherwise it is made, which inks it:", SentencesOfTermsTest::othersAreMade);
        part.holds("it costs (by what is there before its place is looked for)",
                SentencesOfTermsTest::costByWhatIsThereBefore);
        part.holds("width * height if its blur is 0,", SentencesOfTermsTest::costOfSharpLetters);
        part.holds("or if the letter of the same sign and size with the blur 0 is neither laid nor in the street,",
                SentencesOfTermsTest::costWithoutTheSharpLetter);
        part.holds("and half of that, rounded down, otherwise.", SentencesOfTermsTest::halfOfTheCost);
        part.holds("Then its place is looked for, in this order:", SentencesOfTermsTest::orderOfTheRules);
        usingALetterByRules1And2(part);
        usingALetterByRules3And4(part);
        part.end();
    }

    private static void usingALetterByRules1And2(Document part) {
        part.holds("1 Of all gaps into which it fits:", SentencesOfTermsTest::rule1GapsItFitsInto);
        part.holds("that for which (height of the shelf - its height) is the least,",
                SentencesOfTermsTest::rule1LeastSpareHeight);
        part.holds("of several that in the lowest tray, of several that on the highest shelf (with the lowest number),",
                SentencesOfTermsTest::rule1LowestTrayThenHighestShelf);
        part.holds("of several the leftmost one.", SentencesOfTermsTest::rule1Leftmost);
        part.holds("It is laid at the left end of the gap.", SentencesOfTermsTest::rule1LeftEnd);
        part.holds("2 The lowest tray in which", SentencesOfTermsTest::rule2LowestTray);
        part.holds("the heights of all shelves and its height are together at most 24:",
                SentencesOfTermsTest::rule2AtMost24);
        part.holds("a new shelf of its height is opened at the bottom there,",
                SentencesOfTermsTest::rule2AtTheBottom);
        part.holds("and it is laid at its left end.", SentencesOfTermsTest::rule2LeftEnd);
    }

    private static void usingALetterByRules3And4(Document part) {
        part.holds("3 Of all shelves that are not lower than it,", SentencesOfTermsTest::rule3NotLower);
        part.holds("and on which no letter is of the present line:", SentencesOfTermsTest::rule3NoneOfTheLine);
        part.holds("that for which the greatest latest use of its letters is the least,",
                SentencesOfTermsTest::rule3LeastGreatestLatestUse);
        part.holds("of several that in the lowest tray, of several the one with the lowest number.",
                SentencesOfTermsTest::rule3HasNoTies);
        part.holds("All letters of the shelf are taken away,", SentencesOfTermsTest::rule3AllAreTakenAway);
        part.holds("and it is laid at its left end.", SentencesOfTermsTest::rule3LeftEnd);
        part.holds("4 The street, which has room for 4 letters:", SentencesOfTermsTest::rule4RoomForFour);
        part.holds("if it is full, the letter of it with the least latest use that is not of the present line is "
                + "taken away first.", SentencesOfTermsTest::rule4FullStreet);
        part.holds("If all of them are of the present line, the letter cannot be used.",
                SentencesOfTermsTest::rule4StreetOfTheLine);
        part.holds("A shelf on which no letter is left stays as it is.", SentencesOfTermsTest::emptiedShelvesStay);
    }

    // ---- what it is

    private static void noTwoLettersOverlap() {
        for (int pattern = 1; pattern <= 24; pattern++) {
            TypeTrays trays = crowded(pattern);
            int[][] boxes = new int[36][];
            int count = 0;
            for (int letter = 0; letter < 36; letter++) {
                int[] box = boxOf(trays, letter / 9, letter / 3 % 3 + 1, letter % 3);
                if (box[0] >= 0) {
                    boxes[count] = box;
                    count++;
                }
            }
            Check.compare("overlaps of pattern " + pattern, "0", Integer.toString(overlaps(boxes, count)));
        }
    }

    private static TypeTrays crowded(int pattern) {
        TypeTrays trays = Calls.after("addTray; addTray; cut 0 1 2; cut 1 3 1; cut 2 2 4; cut 3 5 3");
        Random random = new Random(pattern);
        for (int step = 1; step <= 120; step++) {
            int letter = random.nextInt(36);
            if (trays.rule(letter / 9, letter / 3 % 3 + 1, letter % 3) != TypeTrays.NONE) {
                trays.use(letter / 9, letter / 3 % 3 + 1, letter % 3);
            }
            if (step % 9 == 0) {
                trays.newLine();
            }
            if (step % 25 == 0) {
                trays.cut(step / 25 % 4, 1 + pattern % 4, 1 + step / 25);
                trays.closeShelves();
            }
        }
        return trays;
    }

    /** Its tray, left edge, upper edge, and what is behind its right and its lower edge. */
    private static int[] boxOf(TypeTrays trays, int sign, int size, int blur) {
        int left = trays.letter(sign, size, blur, 1);
        int top = trays.letter(sign, size, blur, 2);
        return new int[] {trays.letter(sign, size, blur, 0), left, top,
            left + trays.letter(sign, size, blur, 3), top + trays.letter(sign, size, blur, 4)};
    }

    private static int overlaps(int[][] boxes, int count) {
        int overlaps = count > 5 ? 0 : 1000;
        for (int one = 0; one < count; one++) {
            if (boxes[one][3] > 24 || boxes[one][4] > 24) {
                overlaps++;
            }
            for (int other = 0; other < one; other++) {
                if (overlap(boxes[one], boxes[other])) {
                    overlaps++;
                }
            }
        }
        return overlaps;
    }

    private static boolean overlap(int[] one, int[] other) {
        return one[0] == other[0] && one[1] < other[3] && other[1] < one[3] && one[2] < other[4] && other[2] < one[4];
    }

    private static void eachUseFindsItsLetter() {
        TypeTrays trays = Calls.after("cut 0 1 2; cut 1 6 6");
        for (int step = 1; step <= 54; step++) {
            int sign = step % 2;
            int size = step * 5 % 3 + 1;
            int blur = step * 7 / 3 % 3;
            if (trays.rule(sign, size, blur) == TypeTrays.NONE) {
                trays.newLine();
            }
            trays.use(sign, size, blur);
            Check.due("latest use of the letter used", trays.whole(5), () -> trays.letter(sign, size, blur, 5));
            int tray = trays.letter(sign, size, blur, 0);
            if (tray != TypeTrays.NONE) {
                Check.due("it covers its place", 100 * sign + 10 * size + blur,
                        () -> trays.at(tray, trays.letter(sign, size, blur, 1), trays.letter(sign, size, blur, 2)));
            }
        }
    }

    private static void theLastOf512Calls() {
        lastAnswer("newLine", "whole 4", 511);
        lastAnswer("newLine", "newLine", 0);
        lastAnswer("use 0 1 0", "whole 5", 511);
        lastAnswer("use 0 1 0", "whole 6", 510);
        lastAnswer("use 0 1 0", "letter 0 1 0 5", 511);
        lastAnswer("use 0 1 0", "letter 0 1 0 7", 511);
        lastAnswer("use 0 1 0; drop 0 1 0", "whole 7", 256);
        lastAnswer("use 0 1 0; drop 0 1 0", "whole 8", 255);
        lastAnswer("use 0 1 0; drop 0 1 0", "whole 9", 4 * 256);
        lastAnswer("use 0 1 0; undo", "whole 5", 1);
        lastAnswer("newLine; newLine; undo", "undo", 3);
        lastAnswer("type 32; clearCommands", "whole 12", 1);
    }

    /** The answer to the call that stands behind 511 others. */
    private static void lastAnswer(String calls, String last, long due) {
        TypeTrays trays = new TypeTrays();
        String[] inTurn = calls.split(";");
        for (int call = 0; call < 511; call++) {
            Calls.answer(trays, inTurn[call % inTurn.length]);
        }
        Calls.due(trays, last, due);
    }

    // ---- signs and letters

    private static void sixteenSigns() {
        TypeTrays trays = new TypeTrays();
        for (int sign = 0; sign < 16; sign++) {
            Calls.due(trays, "cut " + sign + " " + (1 + sign % 6) + " " + (1 + sign / 6), 0);
        }
        for (int sign = 0; sign < 16; sign++) {
            Calls.due(trays, "sign " + sign + " 0", 1 + sign % 6);
            Calls.due(trays, "sign " + sign + " 1", 1 + sign / 6);
        }
        Calls.thrown(trays, "sign -1 0", INDEX);
        Calls.thrown(trays, "sign 16 0", INDEX);
    }

    private static void leastAndGreatestSign() {
        TypeTrays trays = Calls.after("cut 0 1 6; cut 1 6 1");
        Calls.due(trays, "sign 0 0", 1);
        Calls.due(trays, "sign 0 1", 6);
        Calls.due(trays, "sign 1 0", 6);
        Calls.due(trays, "sign 1 1", 1);
        Calls.thrown(trays, "cut 2 0 2", ARGUMENT);
        Calls.thrown(trays, "cut 2 7 2", ARGUMENT);
        Calls.thrown(trays, "cut 2 2 0", ARGUMENT);
        Calls.thrown(trays, "cut 2 2 7", ARGUMENT);
    }

    private static void signsAtFirst() {
        TypeTrays trays = new TypeTrays();
        for (int sign = 0; sign < 16; sign++) {
            Calls.due(trays, "sign " + sign + " 0", 2);
            Calls.due(trays, "sign " + sign + " 1", 2);
        }
    }

    private static void leastAndGreatestSizeAndBlur() {
        TypeTrays trays = Calls.after("use 0 1 0; use 0 3 2");
        Calls.due(trays, "sign 0 2", 2);
        Calls.thrown(trays, "use 0 0 0", ARGUMENT);
        Calls.thrown(trays, "use 0 4 0", ARGUMENT);
        Calls.thrown(trays, "use 0 1 -1", ARGUMENT);
        Calls.thrown(trays, "use 0 1 3", ARGUMENT);
    }

    private static void widthAndHeightOfEachLetter() {
        int[][] cuts = {{1, 6}, {6, 1}, {2, 2}, {4, 3}};
        TypeTrays trays = Calls.after("cut 0 1 6; cut 1 6 1; cut 15 4 3");
        int[] signs = {0, 1, 2, 15};
        for (int index = 0; index < 4 * 9; index++) {
            int size = index / 3 % 3 + 1;
            int blur = index % 3;
            String letter = "letter " + signs[index / 9] + " " + size + " " + blur;
            Calls.due(trays, letter + " 3", cuts[index / 9][0] * size + 2 * blur);
            Calls.due(trays, letter + " 4", cuts[index / 9][1] * size + 2 * blur);
        }
    }

    private static void oneOfBothIsChanged() {
        String calls = "use 0 1 0; use 0 2 0";
        Calls.due(Calls.after(calls), "cut 0 3 2", 2);
        Calls.due(Calls.after(calls), "cut 0 2 3", 2);
        Calls.due(Calls.after(calls), "cut 0 1 1", 2);
        Calls.due(Calls.after(calls), "cut 0 2 2", 0);
        Calls.due(Calls.after(calls + "; cut 0 2 2"), "sign 0 2", 2);
        Calls.due(Calls.after(calls + "; cut 1 3 3"), "sign 0 2", 2);
    }

    private static void allLettersOfTheSign() {
        TypeTrays trays = Calls.after("cut 0 6 6; cut 1 6 6; use 0 3 2; use 0 3 1; use 1 3 2; use 0 2 2; use 2 1 0");
        Calls.due(trays, "sign 0 2", 1);
        Calls.due(trays, "sign 0 3", 2);
        Calls.due(trays, "cut 0 6 5", 3);
        Calls.due(trays, "sign 0 2", 0);
        Calls.due(trays, "sign 0 3", 0);
        Calls.due(trays, "sign 1 3", 1);
        Calls.due(trays, "sign 2 2", 1);
        Calls.due(trays, "street 0", 132);
        Calls.due(trays, "street 1", -1);
        Calls.due(trays, "whole 8", 3);
        TypeTrays all = Calls.after("addTray; addTray; cut 15 1 1; " + Calls.forEach("use 15 1 #", 0, 1, 2)
                + Calls.forEach("use 15 2 #", 0, 1, 2) + Calls.forEach("use 15 3 #", 0, 1, 2));
        Calls.due(all, "cut 15 1 2", 9);
        Calls.due(all, "whole 2", 0);
    }

    // ---- trays and shelves

    private static void oneToThreeTrays() {
        TypeTrays trays = new TypeTrays();
        Calls.due(trays, "whole 0", 1);
        Calls.due(trays, "tray 0 0", 0);
        Calls.thrown(trays, "tray 1 0", INDEX);
        Calls.due(trays, "addTray", 1);
        Calls.due(trays, "addTray", 2);
        Calls.thrown(trays, "addTray", STATE);
        Calls.due(trays, "tray 2 0", 0);
        Calls.thrown(trays, "tray 3 0", INDEX);
    }

    private static void trayOf24() {
        TypeTrays wide = Calls.after("cut 0 6 1; use 0 3 2");
        Calls.due(wide, "shelf 0 0 4", 2);
        Calls.due(wide, "use 1 1 0", 1);
        Calls.due(wide, "letter 1 1 0 1", 22);
        Calls.due(wide, "shelf 0 0 3", 0);
        Calls.due(wide, "at 0 23 1", 110);
        TypeTrays high = Calls.after("cut 0 6 6; use 0 3 2; cut 1 3 3; cut 2 3 2");
        Calls.due(high, "rule 1 1 0", 4);
        Calls.due(high, "use 2 1 0", 2);
        Calls.due(high, "tray 0 1", 24);
        Calls.due(high, "at 0 0 23", 210);
    }

    private static void shelvesOneBelowTheOther() {
        TypeTrays trays = Calls.after("cut 0 6 2; use 0 1 0; cut 1 6 3; use 1 1 0; cut 2 6 5; use 2 1 0");
        int[] tops = {0, 2, 5};
        for (int shelf = 0; shelf < 3; shelf++) {
            Calls.due(trays, "shelf 0 " + shelf + " 0", tops[shelf]);
            Calls.due(trays, "letter " + shelf + " 1 0 2", tops[shelf]);
            Calls.due(trays, "letter " + shelf + " 1 0 8", shelf);
        }
        Calls.due(trays, "at 0 0 1", 10);
        Calls.due(trays, "at 0 0 2", 110);
        Calls.due(trays, "at 0 0 4", 110);
        Calls.due(trays, "at 0 0 5", 210);
    }

    private static void lowestAndHighestShelf() {
        TypeTrays trays = Calls.after("cut 0 1 1; use 0 1 0; cut 1 6 6; use 1 3 2");
        Calls.due(trays, "shelf 0 0 1", 1);
        Calls.due(trays, "shelf 0 1 1", 22);
        Calls.due(trays, "shelf 0 1 0", 1);
        Calls.due(trays, "tray 0 1", 23);
    }

    private static void leftEdges() {
        TypeTrays trays = Calls.after(Calls.cuts(16, 6, 1) + Calls.forEach("use # 1 0", 0, 1, 2, 3));
        for (int sign = 0; sign < 4; sign++) {
            Calls.due(trays, "letter " + sign + " 1 0 1", 6 * sign);
            Calls.due(trays, "at 0 " + 6 * sign + " 0", 100 * sign + 10);
            Calls.due(trays, "at 0 " + (6 * sign + 5) + " 0", 100 * sign + 10);
        }
    }

    private static void coversFromTheTop() {
        TypeTrays trays = Calls.after("cut 0 3 2; use 0 1 0; cut 1 4 1; use 1 1 0; cut 2 2 3; use 2 1 0");
        Calls.due(trays, "at 0 0 0", 10);
        Calls.due(trays, "at 0 2 1", 10);
        Calls.due(trays, "at 0 3 0", 110);
        Calls.due(trays, "at 0 6 0", 110);
        Calls.due(trays, "at 0 7 0", -1);
        Calls.due(trays, "at 0 3 1", -1);
        Calls.due(trays, "at 0 0 2", 210);
        Calls.due(trays, "at 0 1 4", 210);
        Calls.due(trays, "at 0 2 2", -1);
        Calls.due(trays, "at 0 0 5", -1);
    }

    private static void gapsAreGreatestRows() {
        TypeTrays trays = Calls.after(Calls.cuts(4, 6, 1) + Calls.forEach("use # 1 0", 0, 1, 2, 3));
        gaps(trays, 0, 0);
        gaps(trays.drop(0, 1, 0), trays, 1, 6);
        gaps(trays.drop(2, 1, 0), trays, 2, 6);
        gaps(trays.drop(1, 1, 0), trays, 1, 18);
        gaps(trays.drop(3, 1, 0), trays, 1, 24);
        TypeTrays other = Calls.after("cut 0 6 1; use 0 3 0; cut 1 6 2; use 1 3 0");
        Calls.due(other, "shelf 0 0 4", 6);
        Calls.due(other, "shelf 0 1 4", 6);
        Calls.due(Calls.after("cut 0 6 1; use 0 3 0; cut 1 6 2; use 1 3 0; drop 0 3 0"), "shelf 0 0 4", 24);
    }

    private static void gaps(long dropped, TypeTrays trays, int count, int widest) {
        Check.compare("drop", "1", Long.toString(dropped));
        gaps(trays, count, widest);
    }

    private static void gaps(TypeTrays trays, int count, int widest) {
        Calls.due(trays, "shelf 0 0 3", count);
        Calls.due(trays, "shelf 0 0 4", widest);
    }

    private static void notWider() {
        TypeTrays trays = Calls.after("cut 0 6 1; use 0 3 0; cut 1 1 1; use 1 1 0; cut 2 5 1; cut 3 6 1");
        Calls.due(trays, "shelf 0 0 4", 5);
        Calls.due(trays, "rule 2 1 0", 1);
        Calls.due(trays, "rule 3 1 0", 2);
    }

    private static void notHigher() {
        TypeTrays trays = Calls.after("cut 0 6 3; use 0 1 0; cut 1 2 3; cut 2 2 4");
        Calls.due(trays, "shelf 0 0 1", 3);
        Calls.due(trays, "rule 1 1 0", 1);
        Calls.due(trays, "rule 2 1 0", 2);
    }

    // ---- using a letter

    private static void linesFrom0() {
        TypeTrays trays = new TypeTrays();
        Calls.due(trays, "whole 4", 0);
        Calls.make(trays, "newLine");
        Calls.due(trays, "whole 4", 1);
    }

    private static void clockFrom0() {
        TypeTrays trays = new TypeTrays();
        Calls.due(trays, "whole 5", 0);
        Calls.make(trays, "use 0 1 0");
        Calls.due(trays, "whole 5", 1);
        Calls.make(trays, "use 0 1 0");
        Calls.due(trays, "whole 5", 2);
        Calls.make(trays, "drop 0 1 0; cut 0 1 1; newLine; addTray; closeShelves; rule 0 1 0; costOf 0 1 0");
        Calls.due(trays, "whole 5", 2);
        TypeTrays full = Calls.after(FULL_STREET + "use 0 3 2; use 4 3 2");
        Calls.due(full, "whole 5", 7);
        Calls.thrown(full, "use 5 3 2", STATE);
        Calls.due(full, "whole 5", 7);
    }

    private static void latestUseAndLine() {
        TypeTrays trays = Calls.after(FULL_STREET + "newLine; newLine; use 0 3 2; use 2 3 2; use 9 1 0");
        Calls.due(trays, "letter 0 3 2 5", 6);
        Calls.due(trays, "letter 0 3 2 6", 2);
        Calls.due(trays, "letter 2 3 2 5", 7);
        Calls.due(trays, "letter 2 3 2 6", 2);
        Calls.due(trays, "letter 9 1 0 5", 8);
        Calls.due(trays, "letter 9 1 0 6", 2);
        Calls.due(trays, "letter 1 3 2 5", 2);
        Calls.due(trays, "letter 1 3 2 6", 0);
    }

    private static void lettersOfTheLineStay() {
        TypeTrays trays = Calls.after(Calls.cuts(2, 6, 6) + "use 0 3 2");
        Calls.due(trays, "rule 1 3 2", 4);
        Calls.make(trays, "newLine");
        Calls.due(trays, "rule 1 3 2", 3);
        Calls.make(trays, "use 0 3 2");
        Calls.due(trays, "rule 1 3 2", 4);
        TypeTrays full = Calls.after(FULL_STREET);
        Calls.due(full, "rule 5 3 2", -1);
        Calls.make(full, "newLine; use 0 3 2");
        Calls.due(full, "rule 5 3 2", 4);
        Calls.make(full, Calls.forEach("use # 3 2", 1, 2, 3, 4));
        Calls.due(full, "rule 5 3 2", -1);
    }

    private static void lettersOfTheLineAreDroppedAndCut() {
        TypeTrays trays = Calls.after(FULL_STREET);
        Calls.due(trays, "whole 10", 5);
        Calls.due(trays, "drop 0 3 2", 1);
        Calls.due(trays, "drop 1 3 2", 1);
        Calls.due(trays, "cut 2 5 5", 1);
        Calls.due(trays, "whole 10", 2);
        Calls.due(Calls.after("use 0 1 0"), "cut 0 3 3", 1);
    }

    private static void hits() {
        TypeTrays trays = Calls.after(FULL_STREET);
        Calls.due(trays, "use 0 3 2", 0);
        Calls.due(trays, "use 4 3 2", 0);
        Calls.due(trays, "whole 6", 2);
        Calls.due(trays, "whole 7", 5);
        Calls.due(trays, "street 3", 432);
    }

    private static void othersAreMade() {
        TypeTrays trays = Calls.after("use 0 1 0");
        Calls.due(trays, "whole 7", 1);
        Calls.due(trays, "whole 9", 4);
        Calls.make(trays, "use 0 1 0");
        Calls.due(trays, "whole 7", 1);
        Calls.due(trays, "whole 9", 4);
        Calls.make(trays, "drop 0 1 0; use 0 1 0; use 0 2 0");
        Calls.due(trays, "whole 7", 3);
        Calls.due(trays, "whole 9", 4 + 4 + 16);
    }

    private static void costByWhatIsThereBefore() {
        TypeTrays taken = Calls.after("cut 0 6 6; cut 1 6 6; use 1 3 0; use 0 1 0; newLine");
        Calls.due(taken, "use 0 1 1", 3);
        Calls.due(taken, "letter 0 1 0 5", -1);
        Calls.due(taken, "whole 9", 324 + 36 + 64 / 2);
        TypeTrays street = Calls.after(FULL_STREET + Calls.forEach("drop # 3 2", 1, 2, 3, 4)
                + "use 1 3 0; use 2 3 2; use 3 3 2; use 4 3 2; newLine; use 0 3 2");
        Calls.due(street, "costOf 1 3 2", 484 / 2);
        Calls.due(street, "use 1 3 2", 4);
        Calls.due(street, "letter 1 3 0 5", -1);
        Calls.due(street, "whole 9", 5 * 484 + 324 + 3 * 484 + 484 / 2);
    }

    private static void costOfSharpLetters() {
        TypeTrays trays = Calls.after("cut 0 1 1; cut 1 6 5; use 1 3 1");
        Calls.due(trays, "costOf 0 1 0", 1);
        Calls.due(trays, "costOf 1 3 0", 18 * 15);
        Calls.make(trays, "use 1 3 0; drop 1 3 0");
        Calls.due(trays, "costOf 1 3 0", 18 * 15);
    }

    private static void costWithoutTheSharpLetter() {
        TypeTrays trays = Calls.after("cut 0 1 3");
        Calls.due(trays, "costOf 0 1 1", 15);
        Calls.make(trays, "use 0 2 0; use 0 1 2; use 1 1 0");
        Calls.due(trays, "costOf 0 1 1", 15);
        Calls.make(trays, "use 0 1 0");
        Calls.due(trays, "costOf 0 1 1", 7);
        Calls.make(trays, "drop 0 1 0");
        Calls.due(trays, "costOf 0 1 1", 15);
    }

    private static void halfOfTheCost() {
        TypeTrays trays = Calls.after("cut 0 1 3; use 0 1 0; use 1 1 0; use 1 1 1");
        Calls.due(trays, "whole 9", 3 + 4 + 8);
        Calls.due(trays, "use 0 1 1", 2);
        Calls.due(trays, "whole 9", 3 + 4 + 8 + 7);
        TypeTrays street = Calls.after("cut 0 6 6; cut 1 6 5; use 0 3 2; use 1 3 0");
        Calls.due(street, "sign 1 3", 1);
        Calls.due(street, "costOf 1 3 1", 20 * 17 / 2);
        Calls.due(street, "costOf 1 3 2", 22 * 19 / 2);
        Calls.due(street, "costOf 1 2 1", 14 * 12);
    }

    private static void orderOfTheRules() {
        TypeTrays trays = Calls.after("cut 0 6 2; cut 1 6 2; cut 2 6 2; use 0 3 2; newLine");
        Calls.due(trays, "rule 3 1 0", 1);
        Calls.due(trays, "use 1 3 2", 2);
        Calls.make(trays, "newLine");
        Calls.due(trays, "rule 2 3 2", 3);
        Calls.make(trays, "use 0 3 2; use 1 3 2");
        Calls.due(trays, "rule 2 3 2", 4);
        Calls.due(trays, "rule 3 1 0", 1);
        Calls.make(trays, "addTray");
        Calls.due(trays, "rule 2 3 2", 2);
    }

    private static void rule1GapsItFitsInto() {
        TypeTrays trays = Calls.after("cut 0 6 4; use 0 3 0; cut 1 6 2; use 1 3 2");
        Calls.due(trays, "shelf 0 0 4", 6);
        Calls.due(trays, "shelf 0 1 4", 2);
        Calls.make(trays, "cut 2 3 3; use 2 2 0");
        Calls.due(trays, "letter 2 2 0 8", 0);
        Calls.due(Calls.after("cut 0 6 4; use 0 3 0; cut 1 2 3"), "use 1 2 0", 1);
        Calls.due(Calls.after("cut 0 6 4; use 0 3 0; cut 1 3 6"), "use 1 2 0", 1);
        Calls.due(Calls.after("cut 0 6 4; use 0 3 0; cut 1 4 3"), "use 1 2 0", 2);
    }

    private static void rule1LeastSpareHeight() {
        TypeTrays shelves = Calls.after(Calls.cuts(4, 6, 6) + Calls.forEach("use # 1 0", 0, 1, 2, 3)
                + "cut 4 6 4; use 4 1 0; drop 0 1 0; cut 5 6 3; use 5 1 0; cut 6 6 5; use 6 1 0");
        Calls.due(shelves, "letter 5 1 0 8", 1);
        Calls.due(shelves, "letter 6 1 0 8", 0);
        TypeTrays trays = Calls.after("cut 0 6 6; use 0 3 2; addTray; cut 1 3 3; use 1 1 0; cut 2 2 3; use 2 1 0");
        Calls.due(trays, "letter 1 1 0 0", 1);
        Calls.due(trays, "letter 2 1 0 0", 1);
        Calls.make(trays, "cut 3 2 4; use 3 1 0");
        Calls.due(trays, "letter 3 1 0 0", 0);
        Calls.due(trays, "letter 3 1 0 1", 22);
    }

    private static void rule1LowestTrayThenHighestShelf() {
        TypeTrays trays = Calls.after("cut 0 6 3; use 0 1 0; cut 1 6 6; use 1 3 0; addTray; cut 2 6 6; use 2 3 0; "
                + "cut 3 6 6; use 3 1 0");
        Calls.due(trays, "letter 2 3 0 0", 1);
        Calls.due(trays, "letter 3 1 0 0", 0);
        Calls.due(trays, "letter 3 1 0 8", 1);
        TypeTrays shelves = Calls.after("cut 0 6 2; use 0 3 2; cut 1 6 2; use 1 3 2; use 2 1 0; use 3 1 0");
        Calls.due(shelves, "letter 1 3 2 8", 1);
        Calls.due(shelves, "letter 2 1 0 8", 0);
        Calls.due(shelves, "letter 3 1 0 8", 1);
    }

    private static void rule1Leftmost() {
        TypeTrays trays = Calls.after(Calls.cuts(4, 6, 1) + Calls.forEach("use # 1 0", 0, 1, 2, 3)
                + "drop 0 1 0; drop 2 1 0; cut 4 3 1; use 4 1 0");
        Calls.due(trays, "letter 4 1 0 1", 0);
        TypeTrays tight = Calls.after(Calls.cuts(3, 6, 1) + Calls.forEach("use # 1 0", 0, 1, 2)
                + "cut 4 3 1; use 4 1 0; cut 5 3 1; drop 1 1 0; use 5 1 0");
        Calls.due(tight, "letter 5 1 0 1", 6);
        TypeTrays narrow = Calls.after("cut 0 1 1; use 0 1 0; cut 1 6 1; use 1 1 0; drop 0 1 0; cut 2 2 1; use 2 1 0");
        Calls.due(narrow, "letter 2 1 0 1", 7);
        Calls.make(narrow, "use 0 1 0");
        Calls.due(narrow, "letter 0 1 0 1", 0);
    }

    private static void rule1LeftEnd() {
        TypeTrays trays = Calls.after(Calls.cuts(4, 6, 1) + Calls.forEach("use # 1 0", 0, 1, 2, 3)
                + "drop 1 1 0; drop 2 1 0; cut 4 5 1; use 4 1 0; cut 5 1 1; use 5 1 0");
        Calls.due(trays, "letter 4 1 0 1", 6);
        Calls.due(trays, "letter 5 1 0 1", 11);
        Calls.make(trays, "drop 3 1 0; cut 6 6 1; use 6 1 0; use 7 1 0");
        Calls.due(trays, "letter 6 1 0 1", 12);
    }

    private static void rule2LowestTray() {
        TypeTrays trays = Calls.after("addTray; addTray; " + Calls.cuts(8, 6, 6));
        int[] due = {0, 1, 2};
        for (int sign = 0; sign < 3; sign++) {
            Calls.due(trays, "use " + sign + " 3 0", 2);
            Calls.due(trays, "letter " + sign + " 3 0 0", due[sign]);
        }
        TypeTrays back = Calls.after("addTray; " + Calls.cuts(2, 6, 6) + "use 0 3 0; use 1 3 0; cut 2 6 2; use 2 3 0");
        Calls.due(back, "letter 1 3 0 0", 1);
        Calls.due(back, "letter 2 3 0 0", 0);
    }

    private static void rule2AtMost24() {
        TypeTrays exact = Calls.after("cut 0 6 6; use 0 3 2; cut 1 3 2; cut 2 3 3");
        Calls.due(exact, "rule 1 1 0", 2);
        Calls.due(exact, "rule 2 1 0", 4);
        TypeTrays sum = Calls.after("cut 0 6 2; use 0 3 2; cut 1 6 2; use 1 3 2; cut 2 3 4; cut 3 3 5");
        Calls.due(sum, "tray 0 1", 20);
        Calls.due(sum, "rule 2 1 0", 2);
        Calls.due(sum, "rule 3 1 0", 4);
        TypeTrays empty = Calls.after("cut 0 6 6; use 0 3 2; drop 0 3 2; cut 1 6 6; use 1 3 0");
        Calls.due(empty, "letter 1 3 0 8", 0);
        Calls.due(empty, "tray 0 1", 22);
    }

    private static void rule2AtTheBottom() {
        TypeTrays trays = Calls.after("cut 0 6 2; use 0 3 0; cut 1 6 3; use 1 3 1");
        Calls.due(trays, "letter 1 3 1 8", 1);
        Calls.due(trays, "letter 1 3 1 2", 6);
        Calls.due(trays, "shelf 0 1 1", 11);
        Calls.due(trays, "shelf 0 0 1", 6);
        Calls.due(trays, "tray 0 0", 2);
    }

    private static void rule2LeftEnd() {
        TypeTrays trays = Calls.after("cut 0 6 1; use 0 3 0; cut 1 6 2; use 1 3 0");
        Calls.due(trays, "letter 0 3 0 1", 0);
        Calls.due(trays, "letter 1 3 0 1", 0);
        Calls.due(trays, "at 0 0 3", 130);
        Calls.due(trays, "at 0 18 3", -1);
    }

    private static void rule3NotLower() {
        TypeTrays trays = Calls.after("cut 0 6 4; use 0 3 2; newLine; cut 1 6 4; cut 2 6 5");
        Calls.due(trays, "shelf 0 0 1", 16);
        Calls.due(trays, "rule 1 3 2", 3);
        Calls.due(trays, "letter 2 3 1 4", 17);
        Calls.due(trays, "rule 2 3 1", 4);
        Calls.due(trays, "letter 2 3 0 4", 15);
        Calls.due(trays, "rule 2 3 0", 3);
        TypeTrays older = Calls.after("cut 0 6 2; use 0 3 2; cut 1 6 4; use 1 3 1; newLine; cut 2 6 3; use 2 3 1");
        Calls.due(older, "letter 2 3 1 4", 11);
        Calls.due(older, "letter 2 3 1 8", 1);
        Calls.due(older, "letter 0 3 2 8", 0);
    }

    private static void rule3NoneOfTheLine() {
        TypeTrays trays = Calls.after(Calls.cuts(5, 6, 6) + Calls.forEach("use # 2 0", 0, 1, 2, 3) + "newLine");
        Calls.due(trays, "rule 4 2 0", 3);
        Calls.make(trays, "use 1 2 0; use 2 2 0");
        Calls.due(trays, "shelf 0 0 6", 1);
        Calls.due(trays, "shelf 0 1 6", 1);
        Calls.due(trays, "rule 4 2 0", 4);
        Calls.make(trays, "drop 2 2 0; use 5 3 0");
        Calls.due(trays, "letter 5 3 0 8", 1);
        TypeTrays other = Calls.after(Calls.cuts(5, 6, 6) + Calls.forEach("use # 2 0", 0, 1, 2, 3)
                + "newLine; use 0 2 0; use 4 2 0");
        Calls.due(other, "letter 4 2 0 8", 1);
        Calls.due(other, "letter 1 2 0 8", 0);
    }

    private static void rule3LeastGreatestLatestUse() {
        String shelves = Calls.cuts(5, 6, 6) + Calls.forEach("use # 2 0", 0, 1, 2, 3);
        TypeTrays first = Calls.after(shelves + "newLine; use 4 2 0");
        Calls.due(first, "letter 4 2 0 8", 0);
        TypeTrays second = Calls.after(shelves + "use 0 2 0; newLine; use 4 2 0");
        Calls.due(second, "letter 4 2 0 8", 1);
        Calls.due(second, "letter 0 2 0 8", 0);
        Calls.due(second, "letter 1 2 0 8", 0);
        TypeTrays trays = Calls.after("addTray; " + Calls.cuts(4, 6, 6) + "use 0 3 2; use 1 3 2; use 0 3 2; newLine; "
                + "use 2 3 2");
        Calls.due(trays, "letter 2 3 2 0", 1);
    }

    /** Each use has a clock of its own, and a shelf without letters has a gap that no letter is too wide for. */
    private static void rule3HasNoTies() {
        TypeTrays trays = Calls.after("cut 0 6 6; cut 1 6 6; use 0 3 2; drop 0 3 2");
        Calls.due(trays, "shelf 0 0 4", 24);
        Calls.due(trays, "letter 1 3 2 3", 22);
        Calls.due(trays, "use 1 3 2", 1);
        TypeTrays uses = Calls.after("use 0 1 0; use 1 1 0; undo; use 2 1 0; use 0 1 0; use 3 1 0");
        Calls.due(uses, "letter 2 1 0 5", 2);
        Calls.due(uses, "letter 0 1 0 5", 3);
        Calls.due(uses, "letter 3 1 0 5", 4);
    }

    private static void rule3AllAreTakenAway() {
        TypeTrays trays = Calls.after(Calls.cuts(5, 6, 6) + Calls.forEach("use # 2 0", 0, 1, 2, 3) + "newLine");
        Calls.due(trays, "use 4 2 0", 3);
        Calls.due(trays, "letter 0 2 0 5", -1);
        Calls.due(trays, "letter 1 2 0 5", -1);
        Calls.due(trays, "letter 2 2 0 8", 1);
        Calls.due(trays, "whole 8", 2);
        Calls.due(trays, "shelf 0 0 2", 1);
        Calls.due(trays, "shelf 0 0 1", 12);
    }

    /** The letter that is taken away stands in the middle of the shelf. */
    private static void rule3LeftEnd() {
        TypeTrays trays = Calls.after("cut 0 6 6; cut 1 6 6; use 0 2 0; use 1 2 0; drop 0 2 0; cut 3 6 3; use 3 3 1; "
                + "newLine; use 3 3 1; cut 2 6 2");
        Calls.due(trays, "letter 1 2 0 1", 12);
        Calls.due(trays, "tray 0 1", 23);
        Calls.due(trays, "use 2 3 2", 3);
        Calls.due(trays, "letter 2 3 2 8", 0);
        Calls.due(trays, "letter 2 3 2 1", 0);
    }

    private static void rule4RoomForFour() {
        TypeTrays trays = Calls.after(Calls.cuts(8, 6, 6) + "use 0 3 2");
        for (int sign = 1; sign <= 4; sign++) {
            Calls.due(trays, "takenBy " + sign + " 3 2", 0);
            Calls.due(trays, "use " + sign + " 3 2", 4);
            Calls.due(trays, "whole 3", sign);
        }
        Calls.make(trays, "newLine; use 0 3 2");
        Calls.due(trays, "takenBy 5 3 2", 1);
        Calls.due(trays, "use 5 3 2", 4);
        Calls.due(trays, "whole 3", 4);
        Calls.due(trays, "street 4", -1);
    }

    private static void rule4FullStreet() {
        TypeTrays trays = Calls.after(FULL_STREET + "use 1 3 2; newLine; use 0 3 2; use 5 3 2");
        Calls.due(trays, "letter 2 3 2 5", -1);
        Calls.due(trays, "street 0", 132);
        Calls.due(trays, "street 3", 532);
        Calls.due(trays, "whole 8", 1);
        TypeTrays last = Calls.after(FULL_STREET + "newLine; " + Calls.forEach("use # 3 2", 0, 1, 2, 3) + "use 5 3 2");
        Calls.due(last, "letter 4 3 2 5", -1);
        Calls.due(last, "street 3", 532);
        Calls.due(last, "letter 0 3 2 8", 0);
        TypeTrays first = Calls.after(FULL_STREET + "drop 0 3 2; use 5 3 2; newLine; use 5 3 2; use 6 3 2");
        Calls.due(first, "letter 1 3 2 5", -1);
        Calls.due(first, "street 0", 232);
        Calls.due(first, "whole 3", 4);
    }

    private static void rule4StreetOfTheLine() {
        Twin.refused(Calls.builder(FULL_STREET), "use 5 3 2", STATE);
        TypeTrays trays = Calls.after(FULL_STREET);
        Calls.due(trays, "rule 5 3 2", -1);
        Calls.due(trays, "use 4 3 2", 0);
        Calls.make(trays, "drop 3 3 2");
        Calls.due(trays, "use 5 3 2", 4);
        Calls.thrown(trays, "use 6 3 2", STATE);
        Calls.make(trays, "newLine");
        Calls.due(trays, "use 6 3 2", 3);
    }

    private static void emptiedShelvesStay() {
        String calls = "cut 0 6 2; use 0 1 0; cut 1 6 3; use 1 1 0; cut 2 6 5; use 2 1 0; ";
        for (String emptying : new String[] {"drop 1 1 0", "cut 1 1 1"}) {
            TypeTrays trays = Calls.after(calls + emptying);
            Calls.due(trays, "tray 0 0", 3);
            Calls.due(trays, "shelf 0 1 0", 2);
            Calls.due(trays, "shelf 0 1 1", 3);
            Calls.due(trays, "shelf 0 1 2", 0);
            Calls.due(trays, "letter 2 1 0 2", 5);
            Calls.due(trays, "letter 2 1 0 8", 2);
        }
    }
}
