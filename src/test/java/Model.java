import java.util.ArrayDeque;
import java.util.ArrayList;
import java.util.Comparator;
import java.util.Deque;
import java.util.List;
import java.util.Map;

/**
 * The document once more, written in another way, for ModelTest to compare with: each call works on
 * a copy that is thrown away if it throws, and what-if questions are tried out on a copy.
 */
public final class Model {
    private static final Map<String, Integer> WORDS =
            Map.of("cut", 3, "use", 3, "drop", 3, "line", 0, "tray", 0, "close", 0);

    private static final class Letter {
        int sign;
        int size;
        int blur;
        int x;
        int latest;
        int line;
        int uses;

        int code() {
            return 100 * sign + 10 * size + blur;
        }

        Letter copy() {
            Letter other = new Letter();
            other.sign = sign;
            other.size = size;
            other.blur = blur;
            other.x = x;
            other.latest = latest;
            other.line = line;
            other.uses = uses;
            return other;
        }
    }

    private static final class Shelf {
        int height;
        List<Letter> letters = new ArrayList<>();

        Shelf copy() {
            Shelf other = new Shelf();
            other.height = height;
            letters.forEach(letter -> other.letters.add(letter.copy()));
            return other;
        }

        int latest() {
            return letters.stream().mapToInt(letter -> letter.latest).max().orElse(-1);
        }
    }

    private static final class World {
        int[] widths = new int[16];
        int[] heights = new int[16];
        List<List<Shelf>> trays = new ArrayList<>();
        List<Letter> street = new ArrayList<>();
        int line;
        int clock;
        int hits;
        int made;
        int taken;
        int inked;

        World copy() {
            World other = new World();
            other.widths = widths.clone();
            other.heights = heights.clone();
            for (List<Shelf> tray : trays) {
                List<Shelf> shelves = new ArrayList<>();
                tray.forEach(shelf -> shelves.add(shelf.copy()));
                other.trays.add(shelves);
            }
            street.forEach(letter -> other.street.add(letter.copy()));
            other.line = line;
            other.clock = clock;
            other.hits = hits;
            other.made = made;
            other.taken = taken;
            other.inked = inked;
            return other;
        }

        int width(int sign, int size, int blur) {
            return widths[sign] * size + blur + blur;
        }

        int height(int sign, int size, int blur) {
            return heights[sign] * size + blur + blur;
        }

        int width(Letter letter) {
            return width(letter.sign, letter.size, letter.blur);
        }

        int height(Letter letter) {
            return height(letter.sign, letter.size, letter.blur);
        }

        List<Shelf> shelves() {
            List<Shelf> all = new ArrayList<>();
            trays.forEach(all::addAll);
            return all;
        }

        List<Letter> laid() {
            List<Letter> all = new ArrayList<>();
            shelves().forEach(shelf -> all.addAll(shelf.letters));
            return all;
        }

        List<Letter> all() {
            List<Letter> all = laid();
            all.addAll(street);
            return all;
        }

        Letter find(int sign, int size, int blur) {
            int code = 100 * sign + 10 * size + blur;
            return all().stream().filter(letter -> letter.code() == code).findFirst().orElse(null);
        }

        void take(Letter letter) {
            taken++;
            street.remove(letter);
            shelves().forEach(shelf -> shelf.letters.remove(letter));
        }

        /** Each gap as its left end and its width. */
        List<int[]> gaps(Shelf shelf) {
            boolean[] covered = new boolean[25];
            covered[24] = true;
            for (Letter letter : shelf.letters) {
                for (int x = letter.x; x < letter.x + width(letter); x++) {
                    if (covered[x]) {
                        throw new AssertionError("overlap in the model");
                    }
                    covered[x] = true;
                }
            }
            List<int[]> gaps = new ArrayList<>();
            int left = 0;
            for (int x = 0; x <= 24; x++) {
                if (covered[x]) {
                    if (x > left) {
                        gaps.add(new int[] {left, x - left});
                    }
                    left = x + 1;
                }
            }
            return gaps;
        }

        int sumOfHeights(int tray) {
            return trays.get(tray).stream().mapToInt(shelf -> shelf.height).sum();
        }

        int use(int sign, int size, int blur) {
            needLetter(sign, size, blur);
            clock++;
            Letter letter = find(sign, size, blur);
            int rule = 0;
            if (letter == null) {
                letter = new Letter();
                letter.sign = sign;
                letter.size = size;
                letter.blur = blur;
                int area = width(letter) * height(letter);
                inked += blur > 0 && find(sign, size, 0) != null ? area / 2 : area;
                made++;
                rule = place(letter);
            } else {
                hits++;
            }
            letter.latest = clock;
            letter.line = line;
            letter.uses++;
            return rule;
        }

        private int place(Letter letter) {
            if (placeInGap(letter)) {
                return 1;
            }
            for (int tray = 0; tray < trays.size(); tray++) {
                if (sumOfHeights(tray) + height(letter) <= 24) {
                    Shelf shelf = new Shelf();
                    shelf.height = height(letter);
                    trays.get(tray).add(shelf);
                    shelf.letters.add(letter);
                    return 2;
                }
            }
            Shelf emptied = shelves().stream()
                    .filter(shelf -> shelf.height >= height(letter))
                    .filter(shelf -> shelf.letters.stream().noneMatch(other -> other.line == line))
                    .min(Comparator.comparingInt(Shelf::latest)).orElse(null);
            if (emptied != null) {
                new ArrayList<>(emptied.letters).forEach(this::take);
                emptied.letters.add(letter);
                return 3;
            }
            if (street.size() == 4) {
                Letter leaver = street.stream().filter(other -> other.line != line)
                        .min(Comparator.comparingInt(other -> other.latest)).orElse(null);
                if (leaver == null) {
                    throw new IllegalStateException();
                }
                take(leaver);
            }
            street.add(letter);
            return 4;
        }

        private boolean placeInGap(Letter letter) {
            for (int spare = 0; spare < 24; spare++) {
                for (Shelf shelf : shelves()) {
                    if (shelf.height != height(letter) + spare) {
                        continue;
                    }
                    for (int[] gap : gaps(shelf)) {
                        if (gap[1] >= width(letter)) {
                            letter.x = gap[0];
                            shelf.letters.add(letter);
                            return true;
                        }
                    }
                }
            }
            return false;
        }
    }

    private World world = new World();
    private final Deque<World> saved = new ArrayDeque<>();
    private String text = "";

    public Model() {
        java.util.Arrays.fill(world.widths, 2);
        java.util.Arrays.fill(world.heights, 2);
        world.trays.add(new ArrayList<>());
    }

    private interface Change {
        int carryOut(World world);
    }

    private int undoable(Change change) {
        World tried = world.copy();
        int answer = change.carryOut(tried);
        saved.addLast(world);
        if (saved.size() > 4) {
            saved.removeFirst();
        }
        world = tried;
        return answer;
    }

    private static void need(boolean allowed) {
        if (!allowed) {
            throw new IllegalArgumentException();
        }
    }

    private static void needOne(boolean exists) {
        if (!exists) {
            throw new IndexOutOfBoundsException();
        }
    }

    private static void needLetter(int sign, int size, int blur) {
        needOne(sign >= 0 && sign < 16);
        need(size >= 1 && size <= 3 && blur >= 0 && blur <= 2);
    }

    private static int cutIn(World world, int sign, int width, int height) {
        needOne(sign >= 0 && sign < 16);
        need(width >= 1 && width <= 6 && height >= 1 && height <= 6);
        int before = world.taken;
        if (world.widths[sign] != width || world.heights[sign] != height) {
            world.all().stream().filter(letter -> letter.sign == sign).forEach(world::take);
        }
        world.widths[sign] = width;
        world.heights[sign] = height;
        return world.taken - before;
    }

    private static int dropIn(World world, int sign, int size, int blur) {
        needLetter(sign, size, blur);
        Letter letter = world.find(sign, size, blur);
        if (letter == null) {
            throw new IllegalStateException();
        }
        world.take(letter);
        return letter.uses;
    }

    private static int newLineIn(World world) {
        int count = 0;
        for (Letter letter : world.all()) {
            count += letter.line == world.line ? 1 : 0;
        }
        world.line++;
        return count;
    }

    private static int addTrayIn(World world) {
        if (world.trays.size() == 3) {
            throw new IllegalStateException();
        }
        world.trays.add(new ArrayList<>());
        return world.trays.size() - 1;
    }

    private static int closeIn(World world) {
        int before = world.shelves().size();
        world.trays.forEach(tray -> tray.removeIf(shelf -> shelf.letters.isEmpty()));
        return before - world.shelves().size();
    }

    public int cut(int sign, int width, int height) {
        return undoable(tried -> cutIn(tried, sign, width, height));
    }

    public int use(int sign, int size, int blur) {
        return undoable(tried -> tried.use(sign, size, blur));
    }

    public int drop(int sign, int size, int blur) {
        return undoable(tried -> dropIn(tried, sign, size, blur));
    }

    public int newLine() {
        return undoable(Model::newLineIn);
    }

    public int addTray() {
        return undoable(Model::addTrayIn);
    }

    public int closeShelves() {
        return undoable(Model::closeIn);
    }

    public int letter(int sign, int size, int blur, int what) {
        needLetter(sign, size, blur);
        need(what >= 0 && what <= 8);
        Letter letter = world.find(sign, size, blur);
        if (what == 3) {
            return world.width(sign, size, blur);
        }
        if (what == 4) {
            return world.height(sign, size, blur);
        }
        if (letter == null) {
            return -1;
        }
        if (what >= 5 && what <= 7) {
            return what == 5 ? letter.latest : what == 6 ? letter.line : letter.uses;
        }
        for (int tray = 0; tray < world.trays.size(); tray++) {
            int y = 0;
            for (int shelf = 0; shelf < world.trays.get(tray).size(); shelf++) {
                if (world.trays.get(tray).get(shelf).letters.contains(letter)) {
                    return what == 0 ? tray : what == 1 ? letter.x : what == 2 ? y : shelf;
                }
                y += world.trays.get(tray).get(shelf).height;
            }
        }
        return -1;
    }

    public int sign(int sign, int what) {
        needOne(sign >= 0 && sign < 16);
        need(what >= 0 && what <= 3);
        if (what < 2) {
            return what == 0 ? world.widths[sign] : world.heights[sign];
        }
        List<Letter> letters = what == 2 ? world.laid() : world.street;
        return (int) letters.stream().filter(letter -> letter.sign == sign).count();
    }

    public int tray(int tray, int what) {
        needOne(tray >= 0 && tray < world.trays.size());
        need(what >= 0 && what <= 3);
        List<Shelf> shelves = world.trays.get(tray);
        if (what == 0) {
            return shelves.size();
        }
        if (what == 1) {
            return world.sumOfHeights(tray);
        }
        int sum = 0;
        for (Shelf shelf : shelves) {
            for (Letter letter : shelf.letters) {
                sum += what == 2 ? 1 : world.width(letter) * world.height(letter);
            }
        }
        return sum;
    }

    public int shelf(int tray, int shelf, int what) {
        needOne(tray >= 0 && tray < world.trays.size());
        needOne(shelf >= 0 && shelf < world.trays.get(tray).size());
        need(what >= 0 && what <= 6);
        Shelf one = world.trays.get(tray).get(shelf);
        List<int[]> gaps = world.gaps(one);
        switch (what) {
            case 0:
                return world.trays.get(tray).subList(0, shelf).stream().mapToInt(other -> other.height).sum();
            case 1:
                return one.height;
            case 2:
                return one.letters.size();
            case 3:
                return gaps.size();
            case 4:
                return gaps.stream().mapToInt(gap -> gap[1]).max().orElse(0);
            case 5:
                return one.latest();
            default:
                return one.letters.stream().anyMatch(letter -> letter.line == world.line) ? 1 : 0;
        }
    }

    public int at(int tray, int x, int y) {
        needOne(tray >= 0 && tray < world.trays.size());
        need(x >= 0 && x < 24 && y >= 0 && y < 24);
        int[][] picture = new int[24][24];
        int top = 0;
        for (Shelf shelf : world.trays.get(tray)) {
            for (Letter letter : shelf.letters) {
                for (int i = 0; i < world.width(letter); i++) {
                    for (int j = 0; j < world.height(letter); j++) {
                        picture[letter.x + i][top + j] = letter.code();
                    }
                }
            }
            top += shelf.height;
        }
        return picture[x][y] == 0 ? -1 : picture[x][y];
    }

    public int street(int index) {
        need(index >= 0);
        return index < world.street.size() ? world.street.get(index).code() : -1;
    }

    public int whole(int what) {
        need(what >= 0 && what <= 12);
        int ofLine = 0;
        for (Letter letter : world.all()) {
            ofLine += letter.line == world.line ? 1 : 0;
        }
        int area = 0;
        for (int tray = 0; tray < world.trays.size(); tray++) {
            area += tray(tray, 3);
        }
        int[] values = {world.trays.size(), world.shelves().size(), world.laid().size(), world.street.size(),
            world.line, world.clock, world.hits, world.made, world.taken, world.inked, ofLine, area, text.length()};
        return values[what];
    }

    /** What a use would answer (0), take away (1) and cost (2). */
    private int tryUse(int sign, int size, int blur, int what) {
        needLetter(sign, size, blur);
        World tried = world.copy();
        try {
            int rule = tried.use(sign, size, blur);
            return what == 0 ? rule : what == 1 ? tried.taken - world.taken : tried.inked - world.inked;
        } catch (IllegalStateException cannot) {
            return -1;
        }
    }

    public int rule(int sign, int size, int blur) {
        return tryUse(sign, size, blur, 0);
    }

    public int takenBy(int sign, int size, int blur) {
        return tryUse(sign, size, blur, 1);
    }

    public int costOf(int sign, int size, int blur) {
        return tryUse(sign, size, blur, 2);
    }

    public int oldest() {
        return world.all().stream().min(Comparator.comparingInt(letter -> letter.latest))
                .map(Letter::code).orElse(-1);
    }

    public int greatestGap() {
        int greatest = 0;
        for (Shelf shelf : world.shelves()) {
            for (int[] gap : world.gaps(shelf)) {
                greatest = Math.max(greatest, gap[1] * shelf.height);
            }
        }
        return greatest;
    }

    public int type(int value) {
        need(value >= 0 && value <= 127);
        if (text.length() == 150) {
            throw new IllegalStateException();
        }
        text += (char) value;
        return text.length();
    }

    public int clearCommands() {
        int length = text.length();
        text = "";
        return length;
    }

    /** The fault, or -1; reads byte for byte by what may follow. */
    private int fault() {
        String state = "start";
        String word = "";
        int wordStart = 0;
        int left = 0;
        for (int index = 0; index <= text.length(); index++) {
            char c = index < text.length() ? text.charAt(index) : '$';
            boolean end = index == text.length();
            boolean small = c >= 'a' && c <= 'z' && !end;
            boolean digit = c >= '0' && c <= '9';
            if (state.equals("word") && !small) {
                if (!WORDS.containsKey(word)) {
                    return wordStart;
                }
                left = WORDS.get(word);
                state = left > 0 ? "gap" : "close";
            }
            if (end) {
                return state.equals("start") ? -1 : index;
            }
            if (state.equals("start") && c == ' ') {
                continue;
            } else if (state.equals("start") && small) {
                state = "word";
                word = "" + c;
                wordStart = index;
            } else if (state.equals("word")) {
                word += c;
            } else if (state.equals("gap") && c == ' ') {
                state = "number";
            } else if (state.equals("number") && c == ' ') {
                continue;
            } else if (state.equals("number") && digit) {
                state = "digit";
                left--;
            } else if (state.equals("digit") && digit) {
                state = left > 0 ? "gap" : "close";
            } else if (state.equals("digit") && c == ' ') {
                state = left > 0 ? "number" : "close";
            } else if (state.equals("close") && c == ' ') {
                continue;
            } else if ((state.equals("close") || state.equals("digit") && left == 0) && c == ';') {
                state = "start";
            } else {
                return index;
            }
        }
        throw new AssertionError("no end");
    }

    public int runCommands() {
        int fault = fault();
        if (fault >= 0) {
            return -10 - fault;
        }
        return undoable(tried -> 0) + carryOutText();
    }

    private int carryOutText() {
        int done = 0;
        for (String command : text.split(";")) {
            if (command.isBlank()) {
                continue;
            }
            String[] parts = command.trim().split(" +");
            int[] numbers = new int[3];
            for (int index = 1; index < parts.length; index++) {
                numbers[index - 1] = Integer.parseInt(parts[index]);
            }
            World tried = world.copy();
            try {
                carryOut(tried, parts[0], numbers[0], numbers[1], numbers[2]);
            } catch (IndexOutOfBoundsException | IllegalArgumentException | IllegalStateException stop) {
                return done;
            }
            world = tried;
            done++;
        }
        return done;
    }

    private static int carryOut(World tried, String word, int first, int second, int third) {
        switch (word) {
            case "cut":
                return cutIn(tried, first, second, third);
            case "use":
                return tried.use(first, second, third);
            case "drop":
                return dropIn(tried, first, second, third);
            case "line":
                return newLineIn(tried);
            case "tray":
                return addTrayIn(tried);
            default:
                return closeIn(tried);
        }
    }

    public int undo() {
        if (saved.isEmpty()) {
            throw new IllegalStateException();
        }
        world = saved.removeLast();
        return saved.size();
    }

    public long digest() {
        List<Integer> values = new ArrayList<>();
        values.add(saved.size());
        for (int what = 0; what <= 12; what++) {
            values.add(whole(what));
        }
        for (int sign = 0; sign < 16; sign++) {
            for (int what = 0; what <= 3; what++) {
                values.add(sign(sign, what));
            }
        }
        for (int sign = 0; sign < 16; sign++) {
            for (int size = 1; size <= 3; size++) {
                for (int blur = 0; blur <= 2; blur++) {
                    for (int what = 0; what <= 8; what++) {
                        values.add(letter(sign, size, blur, what));
                    }
                }
            }
        }
        for (int tray = 0; tray < world.trays.size(); tray++) {
            for (int what = 0; what <= 3; what++) {
                values.add(tray(tray, what));
            }
            for (int shelf = 0; shelf < world.trays.get(tray).size(); shelf++) {
                for (int what = 0; what <= 6; what++) {
                    values.add(shelf(tray, shelf, what));
                }
            }
        }
        world.street.forEach(letter -> values.add(letter.code()));
        values.add(oldest());
        values.add(greatestGap());
        long hash = 43532;
        for (int value : values) {
            hash = 31 * hash + value;
        }
        return hash;
    }
}
