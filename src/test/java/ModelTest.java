import java.util.ArrayList;
import java.util.List;
import java.util.Random;

/** Runs of 512 calls, drawn from fixed seeds, whose answers are compared with those of the model. */
public final class ModelTest {
    private static final int RUNS = 400;
    private static final int CALLS = 512;
    private static final String[] WORDS = {"cut", "use", "use", "use", "drop", "line", "tray", "close"};

    private final Random random;
    private final TypeTrays trays = new TypeTrays();
    private final Model model = new Model();
    private final int signs;
    private final int sizes;
    private final int blurs;
    private final int leastCut;
    private final int greatestCut;
    private final int usesInHundred;
    private final int linesInThousand;
    private final List<String> calls = new ArrayList<>();
    private boolean wrong = false;

    private ModelTest(int seed) {
        random = new Random(seed);
        signs = 2 + random.nextInt(15);
        sizes = 1 + random.nextInt(3);
        blurs = 1 + random.nextInt(3);
        greatestCut = 1 + random.nextInt(6);
        leastCut = 1 + random.nextInt(greatestCut);
        usesInHundred = 30 + random.nextInt(60);
        linesInThousand = random.nextInt(4) * random.nextInt(80);
    }

    public static void main(String[] args) {
        int[] rules = new int[6];
        for (int seed = 0; seed < RUNS; seed++) {
            new ModelTest(seed).run(seed, rules);
        }
        for (int rule = 0; rule < rules.length; rule++) {
            int times = rules[rule];
            Check.due("rule " + (rule - 1) + " was met often: " + times, 1, () -> times > 200 ? 1 : 0);
        }
        Check.end();
    }

    private void run(int seed, int[] rules) {
        while (calls.size() < CALLS && !wrong) {
            step(rules);
        }
        if (wrong) {
            System.out.println("seed " + seed + ", the last calls: "
                    + calls.subList(Math.max(0, calls.size() - 12), calls.size()));
        }
    }

    private void step(int[] rules) {
        if (random.nextInt(1000) < linesInThousand) {
            call("newLine");
        }
        int kind = random.nextInt(100);
        if (random.nextInt(100) < usesInHundred) {
            int[] letter = letter();
            rules[model.rule(letter[0], letter[1], letter[2]) + 1]++;
            call("rule", letter);
            call("takenBy", letter);
            call("costOf", letter);
            call("use", letter);
        } else if (kind < 10) {
            call("drop", letter());
        } else if (kind < 18) {
            call("cut", random.nextInt(signs), cutSize(), cutSize());
        } else if (kind < 20) {
            call("addTray");
        } else if (kind < 30) {
            call("closeShelves");
        } else if (kind < 40) {
            call("undo");
        } else if (kind < 48) {
            typeText();
        } else if (kind < 65) {
            stray();
        } else if (kind < 85) {
            question();
        } else {
            call("digest");
        }
    }

    private int cutSize() {
        return leastCut + random.nextInt(greatestCut - leastCut + 1);
    }

    private int[] letter() {
        return new int[] {random.nextInt(signs), 1 + random.nextInt(sizes), random.nextInt(blurs)};
    }

    private void question() {
        int[] letter = letter();
        call("letter", letter[0], letter[1], letter[2], random.nextInt(9));
        call("sign", letter[0], random.nextInt(4));
        call("tray", random.nextInt(3), random.nextInt(4));
        call("shelf", random.nextInt(3), random.nextInt(6), random.nextInt(7));
        call("at", random.nextInt(3), random.nextInt(24), random.nextInt(24));
        call("street", random.nextInt(5));
        call("whole", random.nextInt(13));
        call("oldest");
        call("greatestGap");
    }

    /** A call whose numbers are often out of range. */
    private void stray() {
        String[] names = {"cut", "use", "drop", "letter", "sign", "tray", "shelf", "at", "street", "whole",
            "rule", "takenBy", "costOf", "type"};
        int[] counts = {3, 3, 3, 4, 2, 2, 3, 3, 1, 1, 3, 3, 3, 1};
        int which = random.nextInt(names.length);
        int[] numbers = new int[counts[which]];
        for (int index = 0; index < numbers.length; index++) {
            numbers[index] = strayNumber();
        }
        call(names[which], numbers);
    }

    private int strayNumber() {
        switch (random.nextInt(8)) {
            case 0:
                return Integer.MIN_VALUE;
            case 1:
                return Integer.MAX_VALUE;
            case 2:
                return -1;
            case 3:
                return random.nextInt(160) - 10;
            default:
                return random.nextInt(4);
        }
    }

    private void typeText() {
        call("clearCommands");
        StringBuilder text = new StringBuilder();
        int commands = random.nextInt(7);
        for (int index = 0; index < commands; index++) {
            addCommand(text);
        }
        if (random.nextInt(3) == 0 && text.length() > 0) {
            spoil(text);
        }
        for (int index = 0; index < text.length(); index++) {
            call("type", text.charAt(index));
        }
        call("runCommands");
        call("digest");
    }

    private void addCommand(StringBuilder text) {
        String word = WORDS[random.nextInt(WORDS.length)];
        addSpaces(text, 0);
        text.append(word);
        if (word.equals("use") || word.equals("drop") || word.equals("cut")) {
            int[] letter = letter();
            int[] numbers = word.equals("cut") ? new int[] {letter[0], cutSize(), cutSize()} : letter;
            for (int number : numbers) {
                addSpaces(text, 1);
                int written = random.nextInt(25) == 0 ? random.nextInt(100) : number;
                text.append(written < 10 && random.nextBoolean() ? "0" : "").append(written);
            }
        }
        addSpaces(text, 0);
        text.append(';');
        addSpaces(text, 0);
    }

    private void addSpaces(StringBuilder text, int least) {
        int count = least + (random.nextInt(5) == 0 ? 1 + random.nextInt(2) : 0);
        for (int index = 0; index < count; index++) {
            text.append(' ');
        }
    }

    private void spoil(StringBuilder text) {
        String strange = "az09 ;:`{/\u0000\u007fA";
        int index = random.nextInt(text.length());
        char c = strange.charAt(random.nextInt(strange.length()));
        switch (random.nextInt(4)) {
            case 0:
                text.setCharAt(index, c);
                break;
            case 1:
                text.insert(index, c);
                break;
            case 2:
                text.deleteCharAt(index);
                break;
            default:
                text.setLength(index);
                break;
        }
    }

    private void call(String name, int... numbers) {
        if (calls.size() == CALLS) {
            return;
        }
        StringBuilder written = new StringBuilder(name);
        for (int number : numbers) {
            written.append(' ').append(number);
        }
        calls.add(written.toString());
        String want = Check.answerOf(() -> Caller.call(model, name, numbers));
        String got = Check.answerOf(() -> Caller.call(trays, name, numbers));
        Check.compare(written.toString(), want, got);
        wrong = wrong || !want.equals(got);
    }
}
