import java.io.IOException;
import java.nio.file.DirectoryStream;
import java.nio.file.Files;
import java.nio.file.Path;
import java.util.regex.Matcher;
import java.util.regex.Pattern;

/** README.md says what is so: its examples, its calls, its tests. Run it in the project's folder. */
public final class ReadmeTest {
    private static final Check CHECK = new Check();
    private static final int CALLS = 39;
    private static final Pattern MADE = Pattern.compile("CoilWheels x = new CoilWheels\\(\\);");
    private static final Pattern FED = Pattern.compile("for \\(char c : \"([^\"]*)\"\\.toCharArray\\(\\)\\) \\{");
    private static final Pattern ASKED = Pattern.compile("x\\.(\\w+)\\(([-0-9, ]*)\\);\\s+// (-?[0-9]+): .+");

    public static void main(String[] args) throws IOException {
        String page = Files.readString(Path.of("README.md"));
        String document = Files.readString(Path.of(System.getenv().getOrDefault("SHARED", "../shared"), "DOC.md"));
        examples(page);
        calls(page, document);
        tests(page);
        CHECK.finish();
    }

    /** The examples go on with the same object; a line that can not be read is a fault of the page. */
    private static void examples(String page) {
        CoilWheels x = null;
        int texts = 0;
        int asked = 0;
        Matcher example = Pattern.compile("(?s)```java\n(.*?)```").matcher(page);
        while (example.find()) {
            for (String line : example.group(1).split("\n")) {
                Matcher fed = FED.matcher(line);
                Matcher call = ASKED.matcher(line);
                if (MADE.matcher(line).matches()) {
                    x = new CoilWheels();
                } else if (x != null && fed.matches()) {
                    Check.feed(x, fed.group(1));
                    texts++;
                } else if (x != null && call.matches()) {
                    CHECK.due(line, Check.answer(x, call.group(1), numbers(call.group(2))), Long.parseLong(call.group(3)));
                    asked++;
                } else if (!line.equals("    x.feed(c);") && !line.equals("}")) {
                    CHECK.same("a line that can not be read", line, "");
                }
            }
        }
        CHECK.due("a TAPE that is taken and one that is not", texts, 2);
        CHECK.due("enough is asked", asked > 20 ? 1 : 0, 1);
    }

    private static int[] numbers(String list) {
        if (list.isEmpty()) {
            return new int[0];
        }
        String[] parts = list.split(", ");
        int[] numbers = new int[parts.length];
        for (int i = 0; i < parts.length; i++) {
            numbers[i] = Integer.parseInt(parts[i]);
        }
        return numbers;
    }

    private static void calls(String page, String document) {
        Matcher promise = Pattern.compile("(?m)^## Promise ([0-9]+): .*\n\n`(.*)`: (.*)$").matcher(document);
        int found = 0;
        while (promise.find()) {
            if (promise.group(1).equals("1")) {
                CHECK.due("the constructor", page.replace("\n", " ").contains("`CoilWheels()` (promise 1): " + promise.group(3)) ? 1 : 0, 1);
            } else {
                String row = "| " + promise.group(1) + " | `" + promise.group(2) + "` | " + promise.group(3) + " |\n";
                CHECK.due("the page has " + row, page.contains(row) ? 1 : 0, 1);
                found++;
            }
        }
        CHECK.due("calls of the document", found, CALLS);
        CHECK.due("calls of the page", page.split("\n\\| [0-9]+ \\| ", -1).length - 1, CALLS);
    }

    private static void tests(String page) throws IOException {
        CHECK.due("the command that runs the tests", page.contains("\n    .ci/run\n") ? 1 : 0, 1);
        int tests = 0;
        try (DirectoryStream<Path> files = Files.newDirectoryStream(Path.of("src/test/java"), "*Test.java")) {
            for (Path file : files) {
                String name = file.getFileName().toString().replace(".java", "");
                CHECK.due("the page tells of " + name, page.contains("\n| `" + name + "` | ") ? 1 : 0, 1);
                tests++;
            }
        }
        CHECK.due("tests that the page tells of", page.split("\n\\| `\\w+Test` \\| ", -1).length - 1, tests);
    }
}
