import java.io.IOException;
import java.nio.file.DirectoryStream;
import java.nio.file.Files;
import java.nio.file.Path;
import java.util.ArrayList;
import java.util.Arrays;
import java.util.List;
import java.util.Map;
import java.util.TreeMap;
import java.util.regex.Matcher;
import java.util.regex.Pattern;

/**
 * What the tests quote by says() stands in the document, and no sentence of its terms and promises is left
 * without a test. Run it in the project's folder.
 */
public final class SentencesTest {
    private static final Check CHECK = new Check();
    private static final int PROMISES = 40;
    private static final Path TESTS = Path.of("src/test/java");
    private static final Pattern SAYS = Pattern.compile(
        "says\\((Check\\.TERMS|TERMS|[0-9]+),((?:[\\s+,]*\"[^\"]*\")+)\\s*\\)");
    private static final Pattern QUOTE = Pattern.compile("\"([^\"]*)\"((?:\\s*\\+\\s*\"[^\"]*\")*)");

    public static void main(String[] args) throws IOException {
        Map<Integer, String> sections = sections();
        Map<Integer, List<String>> quotes = new TreeMap<>();
        try (DirectoryStream<Path> files = Files.newDirectoryStream(TESTS, "*Test.java")) {
            for (Path file : files) {
                String code = Files.readString(file);
                collect(code, quotes);
                testsAreRun(file.getFileName().toString(), code);
            }
        }
        CHECK.due("sections of the document", sections.size(), PROMISES + 1);
        for (int section : sections.keySet()) {
            isQuoted(section, sections.get(section), quotes.getOrDefault(section, List.of()));
        }
        CHECK.due("sections that are quoted", quotes.size(), PROMISES + 1);
        CHECK.finish();
    }

    /** The terms by 0, the promises by their numbers, without what is no sentence of theirs. */
    private static Map<Integer, String> sections() throws IOException {
        String shared = System.getenv().getOrDefault("SHARED", "../shared");
        String[] parts = Files.readString(Path.of(shared, "DOC.md")).split("(?m)^## ");
        Map<Integer, String> sections = new TreeMap<>();
        for (String part : parts) {
            Matcher promise = Pattern.compile("Promise ([0-9]+): .*").matcher(part.lines().findFirst().orElse(""));
            if (promise.matches()) {
                sections.put(Integer.parseInt(promise.group(1)), plain(part).replaceFirst("^[^`]*`[^`]*`: ", ""));
            } else if (part.startsWith("Terms")) {
                sections.put(Check.TERMS, plain(part).replaceFirst("^Terms ", ""));
            }
        }
        return sections;
    }

    private static String plain(String part) {
        return part.replaceAll("(?m)^```.*$", "").replaceAll("(?m)^Ahead of the calls .*$", "").replace("========", "")
            .replaceAll("\\s+", " ").trim();
    }

    private static void collect(String code, Map<Integer, List<String>> quotes) {
        Matcher says = SAYS.matcher(code);
        int found = 0;
        while (says.find()) {
            found++;
            int section = says.group(1).endsWith("TERMS") ? Check.TERMS : Integer.parseInt(says.group(1));
            Matcher quote = QUOTE.matcher(says.group(2));
            while (quote.find()) {
                String rest = quote.group(2).replaceAll("\\s*\\+\\s*\"([^\"]*)\"", "$1");
                quotes.computeIfAbsent(section, s -> new ArrayList<>()).add(quote.group(1) + rest);
            }
        }
        int written = code.split("CHECK\\.says\\(", -1).length - 1;
        CHECK.due("calls of says() that could be read", found, written);
    }

    private static void isQuoted(int section, String text, List<String> quotes) {
        char[] left = text.toCharArray();
        for (String quote : quotes) {
            int at = text.indexOf(quote);
            CHECK.due("in section " + section + " stands '" + quote + "'", at < 0 ? 0 : 1, 1);
            for (; at >= 0; at = text.indexOf(quote, at + 1)) {
                Arrays.fill(left, at, at + quote.length(), ' ');
            }
        }
        CHECK.same("section " + section + " is not quoted by any test", String.valueOf(left).trim(), "");
    }

    /** A test that no one calls would quote its sentence for nothing. */
    private static void testsAreRun(String file, String code) {
        Matcher test = Pattern.compile("(?m)^    private (?:static )?void (\\w+)\\(\\)").matcher(code);
        while (test.find()) {
            boolean called = Pattern.compile("[ .]" + test.group(1) + "\\(\\)\\)?;").matcher(code).find();
            CHECK.due(file + ": " + test.group(1) + "() is called", called ? 1 : 0, 1);
        }
    }
}
