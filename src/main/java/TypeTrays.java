/** Letters of a printer that are laid in trays; the document ../shared/DOC.md says what each call does. */
public final class TypeTrays {
    public static final int NONE = -1;

    private static final int SIGNS = 16;
    private static final int SIZES = 3;
    private static final int BLURS = 3;
    private static final int LETTERS_OF_SIGN = SIZES * BLURS;
    private static final int LETTERS = SIGNS * LETTERS_OF_SIGN;
    private static final int LEAST_CUT = 1;
    private static final int GREATEST_CUT = 6;
    private static final int FIRST_CUT = 2;

    private static final int TRAYS = 3;
    private static final int SIDE = 24;
    // No shelf is lower than 1, so a tray has at most as many shelves as it is high.
    private static final int SLOTS = TRAYS * SIDE;
    private static final int STREET_ROOM = 4;

    // Where a letter is: the slot of its shelf, or one of these two, which are no slots.
    private static final int IN_STREET = -1;
    private static final int NOWHERE = -2;

    private static final int BY_HIT = 0;
    private static final int BY_GAP = 1;
    private static final int BY_NEW_SHELF = 2;
    private static final int BY_EMPTIED_SHELF = 3;
    private static final int BY_STREET = 4;

    private static final int FINE = 0;
    private static final int NO_SUCH_ONE = 1;
    private static final int OUT_OF_RANGE = 2;
    private static final int NOT_NOW = 3;

    private static final int LETTER_VALUES = 9;
    private static final int SIGN_VALUES = 4;
    private static final int TRAY_VALUES = 4;
    private static final int SHELF_VALUES = 7;
    private static final int WHOLE_VALUES = 13;
    private static final int TEXT_LENGTH_VALUE = 12;

    private static final int UNDO_ROOM = 4;
    private static final int TEXT_ROOM = 150;
    private static final int GREATEST_BYTE = 127;
    // The shortest commands, "line;" and "tray;", have 5 bytes.
    private static final int COMMAND_ROOM = TEXT_ROOM / 5;
    private static final int FAULT_BASE = -10;
    private static final long DIGEST_START = 43532;

    private static final int CUT = 0;
    private static final int USE = 1;
    private static final int DROP = 2;
    private static final int LINE = 3;
    private static final int TRAY = 4;
    private static final int CLOSE = 5;
    private static final int WORDS = 6;
    private static final int NUMBERS = 3;

    private final State state;
    private final UndoStack undoStack;
    private final Commands commands;
    // Made once and filled anew by each search, so that no call makes objects.
    private final Place place;

    public TypeTrays() {
        state = new State();
        undoStack = new UndoStack();
        commands = new Commands();
        place = new Place();
    }

    // ---- signs and letters

    public int cut(int sign, int width, int height) throws IndexOutOfBoundsException, IllegalArgumentException {
        throwFor(faultOfCut(sign, width, height));
        undoStack.push(state);
        return state.cutSign(sign, width, height);
    }

    public int use(int sign, int size, int blur)
            throws IndexOutOfBoundsException, IllegalArgumentException, IllegalStateException {
        throwFor(faultOfUse(sign, size, blur));
        undoStack.push(state);
        state.useLetter(letterNumber(sign, size, blur), place);
        return place.rule;
    }

    public int drop(int sign, int size, int blur)
            throws IndexOutOfBoundsException, IllegalArgumentException, IllegalStateException {
        throwFor(faultOfDrop(sign, size, blur));
        undoStack.push(state);
        return state.dropLetter(letterNumber(sign, size, blur));
    }

    public int newLine() {
        undoStack.push(state);
        return state.beginLine();
    }

    public int addTray() throws IllegalStateException {
        throwFor(faultOfAddTray());
        undoStack.push(state);
        return state.openTray();
    }

    public int closeShelves() {
        undoStack.push(state);
        return state.closeEmptyShelves();
    }

    // ---- values

    public int letter(int sign, int size, int blur, int what)
            throws IndexOutOfBoundsException, IllegalArgumentException {
        throwFor(faultOfLetter(sign, size, blur));
        throwFor(faultOfWhat(what, LETTER_VALUES));
        return state.letterValue(letterNumber(sign, size, blur), what);
    }

    public int sign(int sign, int what) throws IndexOutOfBoundsException, IllegalArgumentException {
        throwFor(isSign(sign) ? FINE : NO_SUCH_ONE);
        throwFor(faultOfWhat(what, SIGN_VALUES));
        return state.signValue(sign, what);
    }

    public int tray(int tray, int what) throws IndexOutOfBoundsException, IllegalArgumentException {
        throwFor(isTray(tray) ? FINE : NO_SUCH_ONE);
        throwFor(faultOfWhat(what, TRAY_VALUES));
        return state.trayValue(tray, what);
    }

    public int shelf(int tray, int shelf, int what) throws IndexOutOfBoundsException, IllegalArgumentException {
        throwFor(isTray(tray) && isShelf(tray, shelf) ? FINE : NO_SUCH_ONE);
        throwFor(faultOfWhat(what, SHELF_VALUES));
        return state.shelfValue(tray * SIDE + shelf, what);
    }

    public int at(int tray, int x, int y) throws IndexOutOfBoundsException, IllegalArgumentException {
        throwFor(isTray(tray) ? FINE : NO_SUCH_ONE);
        throwFor(isBetween(x, 0, SIDE - 1) && isBetween(y, 0, SIDE - 1) ? FINE : OUT_OF_RANGE);
        return codeOf(state.letterAt(tray, x, y));
    }

    public int street(int index) throws IllegalArgumentException {
        throwFor(index >= 0 ? FINE : OUT_OF_RANGE);
        return codeOf(state.letterOfStreet(index));
    }

    public int whole(int what) throws IllegalArgumentException {
        throwFor(faultOfWhat(what, WHOLE_VALUES));
        return what == TEXT_LENGTH_VALUE ? commands.length : state.wholeValue(what);
    }

    // ---- what if, which changes nothing

    public int rule(int sign, int size, int blur) throws IndexOutOfBoundsException, IllegalArgumentException {
        throwFor(faultOfLetter(sign, size, blur));
        place.find(state, letterNumber(sign, size, blur));
        return place.rule;
    }

    public int takenBy(int sign, int size, int blur) throws IndexOutOfBoundsException, IllegalArgumentException {
        throwFor(faultOfLetter(sign, size, blur));
        place.find(state, letterNumber(sign, size, blur));
        return place.rule == NONE ? NONE : place.taken;
    }

    public int costOf(int sign, int size, int blur) throws IndexOutOfBoundsException, IllegalArgumentException {
        throwFor(faultOfLetter(sign, size, blur));
        int letter = letterNumber(sign, size, blur);
        place.find(state, letter);
        if (place.rule == NONE) {
            return NONE;
        }
        return place.rule == BY_HIT ? 0 : state.inkFor(letter);
    }

    public int oldest() {
        return codeOf(state.oldestLetter());
    }

    public int greatestGap() {
        return state.greatestGapArea();
    }

    // ---- command text, undo and checksum

    public int type(int value) throws IllegalArgumentException, IllegalStateException {
        throwFor(isBetween(value, 0, GREATEST_BYTE) ? FINE : OUT_OF_RANGE);
        throwFor(commands.length < TEXT_ROOM ? FINE : NOT_NOW);
        return commands.append(value);
    }

    public int clearCommands() {
        return commands.empty();
    }

    public int runCommands() {
        if (!commands.readText()) {
            return FAULT_BASE - commands.position;
        }
        undoStack.push(state);
        int done = 0;
        while (done < commands.count && carryOut(done)) {
            done++;
        }
        return done;
    }

    public int undo() throws IllegalStateException {
        throwFor(undoStack.count > 0 ? FINE : NOT_NOW);
        undoStack.popInto(state);
        return undoStack.count;
    }

    public long digest() {
        long hash = mix(DIGEST_START, undoStack.count);
        for (int what = 0; what < WHOLE_VALUES; what++) {
            hash = mix(hash, whole(what));
        }
        for (int sign = 0; sign < SIGNS; sign++) {
            for (int what = 0; what < SIGN_VALUES; what++) {
                hash = mix(hash, state.signValue(sign, what));
            }
        }
        hash = mixLetters(hash);
        for (int tray = 0; tray < state.trays; tray++) {
            hash = mixTray(hash, tray);
        }
        int inStreet = state.countInStreet();
        for (int index = 0; index < inStreet; index++) {
            hash = mix(hash, street(index));
        }
        return mix(mix(hash, oldest()), greatestGap());
    }

    private static long mix(long hash, long value) {
        return 31 * hash + value;
    }

    private long mixLetters(long start) {
        long hash = start;
        for (int letter = 0; letter < LETTERS; letter++) {
            for (int what = 0; what < LETTER_VALUES; what++) {
                hash = mix(hash, state.letterValue(letter, what));
            }
        }
        return hash;
    }

    private long mixTray(long start, int tray) {
        long hash = start;
        for (int what = 0; what < TRAY_VALUES; what++) {
            hash = mix(hash, state.trayValue(tray, what));
        }
        int shelves = state.countShelves(tray);
        for (int shelf = 0; shelf < shelves; shelf++) {
            for (int what = 0; what < SHELF_VALUES; what++) {
                hash = mix(hash, state.shelfValue(tray * SIDE + shelf, what));
            }
        }
        return hash;
    }

    /** Tells whether the command was carried out, which it is unless its method would throw. */
    private boolean carryOut(int index) {
        int first = commands.numberOf(index, 0);
        int second = commands.numberOf(index, 1);
        int third = commands.numberOf(index, 2);
        switch (commands.wordOf(index)) {
            case CUT:
                if (faultOfCut(first, second, third) != FINE) {
                    return false;
                }
                state.cutSign(first, second, third);
                return true;
            case USE:
                if (faultOfUse(first, second, third) != FINE) {
                    return false;
                }
                state.useLetter(letterNumber(first, second, third), place);
                return true;
            case DROP:
                if (faultOfDrop(first, second, third) != FINE) {
                    return false;
                }
                state.dropLetter(letterNumber(first, second, third));
                return true;
            case LINE:
                state.beginLine();
                return true;
            case TRAY:
                if (faultOfAddTray() != FINE) {
                    return false;
                }
                state.openTray();
                return true;
            case CLOSE:
            default:
                state.closeEmptyShelves();
                return true;
        }
    }

    private static void throwFor(int fault) {
        if (fault == NO_SUCH_ONE) {
            throw new IndexOutOfBoundsException("there is no such one");
        }
        if (fault == OUT_OF_RANGE) {
            throw new IllegalArgumentException("out of range");
        }
        if (fault == NOT_NOW) {
            throw new IllegalStateException("not in this state");
        }
    }

    private static int faultOfCut(int sign, int width, int height) {
        if (!isSign(sign)) {
            return NO_SUCH_ONE;
        }
        boolean inRange = isBetween(width, LEAST_CUT, GREATEST_CUT) && isBetween(height, LEAST_CUT, GREATEST_CUT);
        return inRange ? FINE : OUT_OF_RANGE;
    }

    /** Leaves in place where the letter goes, if there is no fault. */
    private int faultOfUse(int sign, int size, int blur) {
        int fault = faultOfLetter(sign, size, blur);
        if (fault != FINE) {
            return fault;
        }
        place.find(state, letterNumber(sign, size, blur));
        return place.rule == NONE ? NOT_NOW : FINE;
    }

    private int faultOfDrop(int sign, int size, int blur) {
        int fault = faultOfLetter(sign, size, blur);
        if (fault != FINE) {
            return fault;
        }
        return state.isThere(letterNumber(sign, size, blur)) ? FINE : NOT_NOW;
    }

    private int faultOfAddTray() {
        return state.trays < TRAYS ? FINE : NOT_NOW;
    }

    private static int faultOfLetter(int sign, int size, int blur) {
        if (!isSign(sign)) {
            return NO_SUCH_ONE;
        }
        return isBetween(size, 1, SIZES) && isBetween(blur, 0, BLURS - 1) ? FINE : OUT_OF_RANGE;
    }

    private static int faultOfWhat(int what, int values) {
        return isBetween(what, 0, values - 1) ? FINE : OUT_OF_RANGE;
    }

    private static boolean isSign(int sign) {
        return isBetween(sign, 0, SIGNS - 1);
    }

    private boolean isTray(int tray) {
        return isBetween(tray, 0, state.trays - 1);
    }

    private boolean isShelf(int tray, int shelf) {
        return isBetween(shelf, 0, state.countShelves(tray) - 1);
    }

    private static boolean isBetween(int value, int least, int greatest) {
        return value >= least && value <= greatest;
    }

    private static int letterNumber(int sign, int size, int blur) {
        return (sign * SIZES + size - 1) * BLURS + blur;
    }

    private static int signOf(int letter) {
        return letter / LETTERS_OF_SIGN;
    }

    private static int sizeOf(int letter) {
        return letter / BLURS % SIZES + 1;
    }

    private static int blurOf(int letter) {
        return letter % BLURS;
    }

    private static int codeOf(int letter) {
        return letter == NONE ? NONE : 100 * signOf(letter) + 10 * sizeOf(letter) + blurOf(letter);
    }

    /** A row of numbers that looks at each index before it uses it. */
    private static final class Row {
        private final int[] cells;

        Row(int length) {
            cells = new int[length > 0 ? length : 0];
        }

        int get(int index) {
            return index >= 0 && index < cells.length ? cells[index] : 0;
        }

        void put(int index, int value) {
            if (index >= 0 && index < cells.length) {
                cells[index] = value;
            }
        }

        void fill(int value) {
            for (int index = 0; index < cells.length; index++) {
                cells[index] = value;
            }
        }

        void copyFrom(Row other) {
            System.arraycopy(other.cells, 0, cells, 0, Math.min(cells.length, other.cells.length));
        }
    }

    /** All that undo brings back. */
    private static final class State {
        private final Row signWidths = new Row(SIGNS);
        private final Row signHeights = new Row(SIGNS);
        // One slot for each shelf that a tray can have; 0 where no shelf is open.
        private final Row shelfHeights = new Row(SLOTS);
        private final Row slots = new Row(LETTERS);
        private final Row lefts = new Row(LETTERS);
        // The first column behind the letter.
        private final Row rights = new Row(LETTERS);
        private final Row latestUses = new Row(LETTERS);
        private final Row lines = new Row(LETTERS);
        private final Row useCounts = new Row(LETTERS);
        // The letters that are laid or in the street in the order in which they were made. A letter
        // never moves while it is there, so those of the street stand in the order of the street.
        private final Row present = new Row(LETTERS);
        private int presentCount = 0;
        private int trays = 1;
        private int line = 0;
        private int clock = 0;
        private int hits = 0;
        private int made = 0;
        private int taken = 0;
        private int inked = 0;

        State() {
            signWidths.fill(FIRST_CUT);
            signHeights.fill(FIRST_CUT);
            slots.fill(NOWHERE);
        }

        void copyFrom(State other) {
            signWidths.copyFrom(other.signWidths);
            signHeights.copyFrom(other.signHeights);
            shelfHeights.copyFrom(other.shelfHeights);
            slots.copyFrom(other.slots);
            lefts.copyFrom(other.lefts);
            rights.copyFrom(other.rights);
            latestUses.copyFrom(other.latestUses);
            lines.copyFrom(other.lines);
            useCounts.copyFrom(other.useCounts);
            present.copyFrom(other.present);
            presentCount = other.presentCount;
            trays = other.trays;
            line = other.line;
            clock = other.clock;
            hits = other.hits;
            made = other.made;
            taken = other.taken;
            inked = other.inked;
        }

        // ---- changes

        int cutSign(int sign, int width, int height) {
            if (signWidths.get(sign) == width && signHeights.get(sign) == height) {
                return 0;
            }
            signWidths.put(sign, width);
            signHeights.put(sign, height);
            int first = sign * LETTERS_OF_SIGN;
            int count = 0;
            for (int letter = first; letter < first + LETTERS_OF_SIGN; letter++) {
                if (isThere(letter)) {
                    takeAway(letter);
                    count++;
                }
            }
            return count;
        }

        void useLetter(int letter, Place place) {
            if (place.rule == BY_HIT) {
                hits++;
            } else {
                makeLetter(letter, place);
            }
            clock++;
            latestUses.put(letter, clock);
            lines.put(letter, line);
            useCounts.put(letter, useCounts.get(letter) + 1);
        }

        private void makeLetter(int letter, Place place) {
            // The ink goes by what is there before anything is taken away.
            inked += inkFor(letter);
            made++;
            if (place.rule == BY_NEW_SHELF) {
                shelfHeights.put(place.slot, heightOf(letter));
            }
            if (place.rule == BY_EMPTIED_SHELF) {
                emptyShelf(place.slot);
            }
            if (place.leaver != NONE) {
                takeAway(place.leaver);
            }
            slots.put(letter, place.slot);
            lefts.put(letter, place.left);
            rights.put(letter, place.left + widthOf(letter));
            useCounts.put(letter, 0);
            present.put(presentCount, letter);
            presentCount++;
        }

        private void emptyShelf(int slot) {
            // From the end, because each letter that goes moves those behind it forward.
            for (int index = presentCount - 1; index >= 0; index--) {
                int letter = present.get(index);
                if (slots.get(letter) == slot) {
                    takeAway(letter);
                }
            }
        }

        private void takeAway(int letter) {
            int kept = 0;
            for (int index = 0; index < presentCount; index++) {
                int other = present.get(index);
                if (other != letter) {
                    present.put(kept, other);
                    kept++;
                }
            }
            presentCount = kept;
            slots.put(letter, NOWHERE);
            taken++;
        }

        int dropLetter(int letter) {
            int uses = useCounts.get(letter);
            takeAway(letter);
            return uses;
        }

        int beginLine() {
            int count = countOfLine();
            line++;
            return count;
        }

        int openTray() {
            trays++;
            return trays - 1;
        }

        int closeEmptyShelves() {
            int closed = 0;
            // From the bottom, because each shelf that is closed moves up those below it.
            for (int slot = SLOTS - 1; slot >= 0; slot--) {
                if (shelfHeights.get(slot) > 0 && countOnShelf(slot) == 0) {
                    closeShelf(slot);
                    closed++;
                }
            }
            return closed;
        }

        private void closeShelf(int closed) {
            int last = closed / SIDE * SIDE + SIDE - 1;
            for (int slot = closed; slot < last; slot++) {
                shelfHeights.put(slot, shelfHeights.get(slot + 1));
            }
            shelfHeights.put(last, 0);
            for (int index = 0; index < presentCount; index++) {
                int letter = present.get(index);
                int slot = slots.get(letter);
                if (slot > closed && slot <= last) {
                    slots.put(letter, slot - 1);
                }
            }
        }

        // ---- a letter

        int widthOf(int letter) {
            return signWidths.get(signOf(letter)) * sizeOf(letter) + 2 * blurOf(letter);
        }

        int heightOf(int letter) {
            return signHeights.get(signOf(letter)) * sizeOf(letter) + 2 * blurOf(letter);
        }

        int areaOf(int letter) {
            return widthOf(letter) * heightOf(letter);
        }

        int inkFor(int letter) {
            int sharp = letter - blurOf(letter);
            int area = areaOf(letter);
            return letter != sharp && isThere(sharp) ? area / 2 : area;
        }

        boolean isThere(int letter) {
            return slots.get(letter) != NOWHERE;
        }

        private boolean isLaid(int letter) {
            return slots.get(letter) >= 0;
        }

        private boolean isInStreet(int letter) {
            return slots.get(letter) == IN_STREET;
        }

        private boolean isOfLine(int letter) {
            return lines.get(letter) == line;
        }

        private boolean covers(int letter, int x, int y) {
            int top = topOf(slots.get(letter));
            return x >= lefts.get(letter) && x < rights.get(letter) && y >= top && y < top + heightOf(letter);
        }

        int letterValue(int letter, int what) {
            if (what == 3) {
                return widthOf(letter);
            }
            if (what == 4) {
                return heightOf(letter);
            }
            if (!isThere(letter)) {
                return NONE;
            }
            switch (what) {
                case 5:
                    return latestUses.get(letter);
                case 6:
                    return lines.get(letter);
                case 7:
                    return useCounts.get(letter);
                default:
                    return isLaid(letter) ? placeValue(letter, what) : NONE;
            }
        }

        private int placeValue(int letter, int what) {
            int slot = slots.get(letter);
            switch (what) {
                case 0:
                    return slot / SIDE;
                case 1:
                    return lefts.get(letter);
                case 2:
                    return topOf(slot);
                default:
                    return slot % SIDE;
            }
        }

        // ---- a sign

        int signValue(int sign, int what) {
            switch (what) {
                case 0:
                    return signWidths.get(sign);
                case 1:
                    return signHeights.get(sign);
                case 2:
                    return countLaidOfSign(sign);
                default:
                    return countInStreetOfSign(sign);
            }
        }

        private int countLaidOfSign(int sign) {
            int count = 0;
            for (int index = 0; index < presentCount; index++) {
                int letter = present.get(index);
                if (signOf(letter) == sign && isLaid(letter)) {
                    count++;
                }
            }
            return count;
        }

        private int countInStreetOfSign(int sign) {
            int count = 0;
            for (int index = 0; index < presentCount; index++) {
                int letter = present.get(index);
                if (signOf(letter) == sign && isInStreet(letter)) {
                    count++;
                }
            }
            return count;
        }

        // ---- a tray

        int trayValue(int tray, int what) {
            switch (what) {
                case 0:
                    return countShelves(tray);
                case 1:
                    return heightOfShelves(tray);
                case 2:
                    return countInTray(tray);
                default:
                    return areaInTray(tray);
            }
        }

        int countShelves(int tray) {
            int count = 0;
            for (int slot = tray * SIDE; slot < tray * SIDE + SIDE; slot++) {
                if (shelfHeights.get(slot) > 0) {
                    count++;
                }
            }
            return count;
        }

        int heightOfShelves(int tray) {
            int height = 0;
            for (int slot = tray * SIDE; slot < tray * SIDE + SIDE; slot++) {
                height += shelfHeights.get(slot);
            }
            return height;
        }

        private boolean isInTray(int letter, int tray) {
            return isLaid(letter) && slots.get(letter) / SIDE == tray;
        }

        private int countInTray(int tray) {
            int count = 0;
            for (int index = 0; index < presentCount; index++) {
                if (isInTray(present.get(index), tray)) {
                    count++;
                }
            }
            return count;
        }

        private int areaInTray(int tray) {
            int area = 0;
            for (int index = 0; index < presentCount; index++) {
                int letter = present.get(index);
                if (isInTray(letter, tray)) {
                    area += areaOf(letter);
                }
            }
            return area;
        }

        int letterAt(int tray, int x, int y) {
            for (int index = 0; index < presentCount; index++) {
                int letter = present.get(index);
                if (isInTray(letter, tray) && covers(letter, x, y)) {
                    return letter;
                }
            }
            return NONE;
        }

        // ---- a shelf

        int shelfValue(int slot, int what) {
            switch (what) {
                case 0:
                    return topOf(slot);
                case 1:
                    return shelfHeights.get(slot);
                case 2:
                    return countOnShelf(slot);
                case 3:
                    return Gaps.count(coverOf(slot));
                case 4:
                    return Gaps.widest(coverOf(slot));
                case 5:
                    return latestUseOnShelf(slot);
                default:
                    return hasLetterOfLine(slot) ? 1 : 0;
            }
        }

        private int topOf(int slot) {
            int top = 0;
            for (int above = slot / SIDE * SIDE; above < slot; above++) {
                top += shelfHeights.get(above);
            }
            return top;
        }

        int heightOfShelf(int slot) {
            return shelfHeights.get(slot);
        }

        /** The columns that letters of the shelf cover, one bit for each. */
        int coverOf(int slot) {
            int cover = 0;
            for (int index = 0; index < presentCount; index++) {
                int letter = present.get(index);
                if (slots.get(letter) == slot) {
                    cover |= (1 << rights.get(letter)) - (1 << lefts.get(letter));
                }
            }
            return cover;
        }

        int countOnShelf(int slot) {
            int count = 0;
            for (int index = 0; index < presentCount; index++) {
                if (slots.get(present.get(index)) == slot) {
                    count++;
                }
            }
            return count;
        }

        int latestUseOnShelf(int slot) {
            int latest = NONE;
            for (int index = 0; index < presentCount; index++) {
                int letter = present.get(index);
                if (slots.get(letter) == slot) {
                    latest = Math.max(latest, latestUses.get(letter));
                }
            }
            return latest;
        }

        boolean hasLetterOfLine(int slot) {
            for (int index = 0; index < presentCount; index++) {
                int letter = present.get(index);
                if (slots.get(letter) == slot && isOfLine(letter)) {
                    return true;
                }
            }
            return false;
        }

        // ---- the street

        int countInStreet() {
            int count = 0;
            for (int index = 0; index < presentCount; index++) {
                if (isInStreet(present.get(index))) {
                    count++;
                }
            }
            return count;
        }

        int letterOfStreet(int number) {
            int before = 0;
            for (int index = 0; index < presentCount; index++) {
                int letter = present.get(index);
                if (isInStreet(letter)) {
                    if (before == number) {
                        return letter;
                    }
                    before++;
                }
            }
            return NONE;
        }

        int oldestOfStreetThatMayGo() {
            int oldest = NONE;
            for (int index = 0; index < presentCount; index++) {
                int letter = present.get(index);
                if (isInStreet(letter) && !isOfLine(letter) && isOlder(letter, oldest)) {
                    oldest = letter;
                }
            }
            return oldest;
        }

        // ---- the whole

        int wholeValue(int what) {
            switch (what) {
                case 0:
                    return trays;
                case 1:
                    return countAllShelves();
                case 2:
                    return presentCount - countInStreet();
                case 3:
                    return countInStreet();
                case 4:
                    return line;
                case 5:
                    return clock;
                case 6:
                    return hits;
                case 7:
                    return made;
                case 8:
                    return taken;
                case 9:
                    return inked;
                case 10:
                    return countOfLine();
                default:
                    return areaLaid();
            }
        }

        private int countAllShelves() {
            int count = 0;
            for (int tray = 0; tray < trays; tray++) {
                count += countShelves(tray);
            }
            return count;
        }

        private int countOfLine() {
            int count = 0;
            for (int index = 0; index < presentCount; index++) {
                if (isOfLine(present.get(index))) {
                    count++;
                }
            }
            return count;
        }

        private int areaLaid() {
            int area = 0;
            for (int index = 0; index < presentCount; index++) {
                int letter = present.get(index);
                if (isLaid(letter)) {
                    area += areaOf(letter);
                }
            }
            return area;
        }

        int oldestLetter() {
            int oldest = NONE;
            for (int index = 0; index < presentCount; index++) {
                int letter = present.get(index);
                if (isOlder(letter, oldest)) {
                    oldest = letter;
                }
            }
            return oldest;
        }

        private boolean isOlder(int letter, int other) {
            return other == NONE || latestUses.get(letter) < latestUses.get(other);
        }

        int greatestGapArea() {
            int greatest = 0;
            for (int slot = 0; slot < SLOTS; slot++) {
                int height = shelfHeights.get(slot);
                if (height > 0) {
                    greatest = Math.max(greatest, Gaps.widest(coverOf(slot)) * height);
                }
            }
            return greatest;
        }
    }

    /** The gaps that are left by the covered columns of a shelf. */
    private static final class Gaps {
        private static boolean isFree(int cover, int x) {
            return (cover >> x & 1) == 0;
        }

        static int count(int cover) {
            int count = 0;
            for (int x = 0; x < SIDE; x++) {
                if (isFree(cover, x) && (x == 0 || !isFree(cover, x - 1))) {
                    count++;
                }
            }
            return count;
        }

        static int widest(int cover) {
            int widest = 0;
            int width = 0;
            for (int x = 0; x < SIDE; x++) {
                width = isFree(cover, x) ? width + 1 : 0;
                widest = Math.max(widest, width);
            }
            return widest;
        }

        /** The left end of the leftmost gap of at least this width. */
        static int leftmost(int cover, int leastWidth) {
            int width = 0;
            for (int x = 0; x < SIDE; x++) {
                width = isFree(cover, x) ? width + 1 : 0;
                if (width >= leastWidth) {
                    return x - width + 1;
                }
            }
            return NONE;
        }
    }

    /** Where a letter would go if it was used now, and what would be taken away for it. */
    private static final class Place {
        private int rule = NONE;
        private int slot = NOWHERE;
        private int left = NONE;
        private int taken = 0;
        // The letter that leaves the street.
        private int leaver = NONE;

        void find(State state, int letter) {
            choose(NONE, NOWHERE, NONE);
            taken = 0;
            leaver = NONE;
            if (state.isThere(letter)) {
                rule = BY_HIT;
                return;
            }
            findGap(state, letter);
            if (rule == NONE) {
                findRoomForShelf(state, letter);
            }
            if (rule == NONE) {
                findShelfToEmpty(state, letter);
            }
            if (rule == NONE) {
                findRoomInStreet(state);
            }
        }

        private void choose(int newRule, int newSlot, int newLeft) {
            rule = newRule;
            slot = newSlot;
            left = newLeft;
        }

        private void findGap(State state, int letter) {
            int width = state.widthOf(letter);
            int height = state.heightOf(letter);
            int leastSpare = SIDE;
            for (int candidate = 0; candidate < SLOTS; candidate++) {
                int spare = state.heightOfShelf(candidate) - height;
                if (spare >= 0 && spare < leastSpare) {
                    int gap = Gaps.leftmost(state.coverOf(candidate), width);
                    if (gap != NONE) {
                        choose(BY_GAP, candidate, gap);
                        leastSpare = spare;
                    }
                }
            }
        }

        private void findRoomForShelf(State state, int letter) {
            int height = state.heightOf(letter);
            for (int tray = 0; tray < state.trays; tray++) {
                if (state.heightOfShelves(tray) + height <= SIDE) {
                    choose(BY_NEW_SHELF, tray * SIDE + state.countShelves(tray), 0);
                    return;
                }
            }
        }

        private void findShelfToEmpty(State state, int letter) {
            int height = state.heightOf(letter);
            int leastLatest = NONE;
            for (int candidate = 0; candidate < SLOTS; candidate++) {
                // A slot without a shelf has the height 0, which is lower than every letter.
                if (state.heightOfShelf(candidate) >= height && !state.hasLetterOfLine(candidate)) {
                    int latest = state.latestUseOnShelf(candidate);
                    if (rule == NONE || latest < leastLatest) {
                        choose(BY_EMPTIED_SHELF, candidate, 0);
                        leastLatest = latest;
                    }
                }
            }
            if (rule != NONE) {
                taken = state.countOnShelf(slot);
            }
        }

        private void findRoomInStreet(State state) {
            if (state.countInStreet() < STREET_ROOM) {
                choose(BY_STREET, IN_STREET, NONE);
                return;
            }
            leaver = state.oldestOfStreetThatMayGo();
            if (leaver != NONE) {
                choose(BY_STREET, IN_STREET, NONE);
                taken = 1;
            }
        }
    }

    /** The latest saved states, in a ring that is used again and again. */
    private static final class UndoStack {
        private final State[] states = new State[UNDO_ROOM];
        private int first = 0;
        private int count = 0;

        UndoStack() {
            for (int index = 0; index < states.length; index++) {
                states[index] = new State();
            }
        }

        void push(State state) {
            // With a full ring this is the oldest state, which is dropped.
            State saved = savedAt(first + count);
            if (saved == null) {
                return;
            }
            saved.copyFrom(state);
            if (count < UNDO_ROOM) {
                count++;
            } else {
                first = (first + 1) % UNDO_ROOM;
            }
        }

        void popInto(State state) {
            State saved = savedAt(first + count - 1);
            if (saved == null || count == 0) {
                return;
            }
            state.copyFrom(saved);
            count--;
        }

        private State savedAt(int position) {
            int index = position % UNDO_ROOM;
            return index >= 0 && index < states.length ? states[index] : null;
        }
    }

    /** The command text, and the commands that were read from it. */
    private static final class Commands {
        private final Row text = new Row(TEXT_ROOM);
        private int length = 0;
        // Where the reading stands; when it fails, this is the fault.
        private int position = 0;
        private final Row words = new Row(COMMAND_ROOM);
        private final Row numbers = new Row(COMMAND_ROOM * NUMBERS);
        private int count = 0;

        int append(int value) {
            text.put(length, value);
            length++;
            return length;
        }

        int empty() {
            int before = length;
            length = 0;
            return before;
        }

        int wordOf(int command) {
            return words.get(command);
        }

        int numberOf(int command, int index) {
            return numbers.get(command * NUMBERS + index);
        }

        boolean readText() {
            position = 0;
            count = 0;
            skipSpaces();
            // A command takes more than one byte, so there are fewer of them than bytes.
            for (int round = 0; round < TEXT_ROOM && position < length; round++) {
                if (!readCommand()) {
                    return false;
                }
                count++;
                skipSpaces();
            }
            return true;
        }

        private boolean readCommand() {
            int start = position;
            skipLetters();
            int word = findWord(start, position);
            if (word == NONE) {
                position = start;
                return false;
            }
            words.put(count, word);
            int due = numbersAfter(word);
            for (int index = 0; index < due; index++) {
                if (!readNumber(index)) {
                    return false;
                }
            }
            skipSpaces();
            if (byteAt(position) != ';') {
                return false;
            }
            position++;
            return true;
        }

        private boolean readNumber(int index) {
            if (byteAt(position) != ' ') {
                return false;
            }
            skipSpaces();
            if (!isDigit(byteAt(position))) {
                return false;
            }
            int number = byteAt(position) - '0';
            position++;
            if (isDigit(byteAt(position))) {
                number = 10 * number + byteAt(position) - '0';
                position++;
            }
            numbers.put(count * NUMBERS + index, number);
            return true;
        }

        private void skipSpaces() {
            while (position < length && byteAt(position) == ' ') {
                position++;
            }
        }

        private void skipLetters() {
            while (position < length && isLetter(byteAt(position))) {
                position++;
            }
        }

        private int byteAt(int index) {
            return index < length ? text.get(index) : NONE;
        }

        private static boolean isDigit(int value) {
            return value >= '0' && value <= '9';
        }

        private static boolean isLetter(int value) {
            return value >= 'a' && value <= 'z';
        }

        private int findWord(int start, int end) {
            for (int word = 0; word < WORDS; word++) {
                if (isTextAt(start, end, spellingOf(word))) {
                    return word;
                }
            }
            return NONE;
        }

        private boolean isTextAt(int start, int end, String spelling) {
            if (end - start != spelling.length()) {
                return false;
            }
            for (int index = 0; index < spelling.length(); index++) {
                if (byteAt(start + index) != spelling.charAt(index)) {
                    return false;
                }
            }
            return true;
        }

        private static String spellingOf(int word) {
            switch (word) {
                case CUT:
                    return "cut";
                case USE:
                    return "use";
                case DROP:
                    return "drop";
                case LINE:
                    return "line";
                case TRAY:
                    return "tray";
                case CLOSE:
                default:
                    return "close";
            }
        }

        private static int numbersAfter(int word) {
            return word == CUT || word == USE || word == DROP ? NUMBERS : 0;
        }
    }
}
