import java.io.IOException;
import java.lang.reflect.Method;
import java.lang.reflect.Modifier;
import java.nio.file.DirectoryStream;
import java.nio.file.Files;
import java.nio.file.Path;
import java.util.List;
import java.util.regex.Matcher;
import java.util.regex.Pattern;

/** The example of README.md answers what it says, and each call and each test stands in its table. */
public final class ReadmeTest {
    private static final Path FILE = Path.of("README.md");
    private static final Path TESTS = Path.of("src/test/java");
    private static final Pattern CALL =
            Pattern.compile("trays\\.(\\w+)\\(([^)]*)\\); +// (throws )?(-?\\w+): .+");
    private static final Pattern TEXT = Pattern.compile("for \\(char sign : \"([^\"]*)\"\\.toCharArray\\(\\)\\) \\{");
    private static final List<String> OTHERS =
            List.of("", "}", "trays.type(sign);", "TypeTrays trays = new TypeTrays();");

    private static int answers = 0;

    public static void main(String[] args) throws IOException {
        List<String> lines = Files.readAllLines(FILE);
        checkExample(lines);
        checkCalls(lines);
        checkTests(lines);
        Check.end();
    }

    private static void checkExample(List<String> lines) {
        int start = lines.indexOf("```java");
        int end = lines.indexOf("```");
        Check.due("the example begins and ends", 1, () -> start >= 0 && start < end ? 1 : 0);
        TypeTrays trays = new TypeTrays();
        for (int index = start + 1; index < end; index++) {
            checkLine(trays, lines.get(index).trim());
        }
        Check.due("the example tells answers", 1, () -> answers > 0 ? 1 : 0);
    }

    private static void checkLine(TypeTrays trays, String line) {
        Matcher call = CALL.matcher(line);
        Matcher text = TEXT.matcher(line);
        if (call.matches()) {
            String want = call.group(3) == null ? call.group(4) : "throws." + call.group(4);
            String words = call.group(1) + " " + call.group(2).replace(',', ' ');
            Check.compare("README: " + line, want, Check.answerOf(() -> Calls.answer(trays, words)));
            answers++;
        } else if (text.matches()) {
            Check.type(trays, text.group(1));
        } else {
            Check.due("README: " + line + " is a line that the test knows", 1, () -> OTHERS.contains(line) ? 1 : 0);
        }
    }

    private static void checkCalls(List<String> lines) {
        for (Method method : TypeTrays.class.getDeclaredMethods()) {
            if (Modifier.isPublic(method.getModifiers())) {
                String parameters = parameters(method.getParameterCount());
                checkRow(lines, "\\| `" + method.getName() + "\\(" + parameters + "\\)` \\| .+");
            }
        }
    }

    private static String parameters(int count) {
        return count == 0 ? "" : "\\w+(, \\w+){" + (count - 1) + "}";
    }

    private static void checkTests(List<String> lines) throws IOException {
        try (DirectoryStream<Path> tests = Files.newDirectoryStream(TESTS, "*Test.java")) {
            for (Path test : tests) {
                checkRow(lines, "\\| " + test.getFileName().toString().replace(".java", "") + " \\| .+");
            }
        }
    }

    private static void checkRow(List<String> lines, String row) {
        long found = lines.stream().filter(line -> line.matches(row)).count();
        Check.due("rows of README.md like " + row, 1, () -> found);
    }
}
