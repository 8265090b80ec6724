import java.io.IOException;
import java.nio.charset.StandardCharsets;
import java.nio.file.Files;
import java.nio.file.Path;
import java.util.ArrayList;
import java.util.List;
import java.util.regex.Matcher;
import java.util.regex.Pattern;
import java.util.stream.Stream;

/** Each promise, and each of the Terms I to IV, has sentences that a test quotes by Check.sentence(). */
public final class SentencesTest {
    private static final Pattern QUOTE = Pattern.compile("Check\\.sentence\\(((?:\\s*\\+?\\s*\"(?:[^\"\\\\]|\\\\.)*\")+)\\)");

    public static void main(String[] args) throws IOException {
        Path root = Path.of(System.getProperty("root", "."));
        List<String> quotes = quotes(root.resolve("src/test/java"));
        String document = Files.readString(root.resolve("../shared/DOC.md"), StandardCharsets.UTF_8);
        String[] parts = document.split("\n(?=## Promise |## Not promised|I\\. A TABLE|II\\. SEATS|III\\. AHEAD|IV\\. A QUESTION|The constants)");
        int promises = 0;
        int terms = 0;
        for (String part : parts) {
            String title = part.substring(0, Math.min(30, part.indexOf('\n') < 0 ? part.length() : part.indexOf('\n')));
            boolean isPromise = part.startsWith("## Promise ");
            boolean isTerm = part.matches("(?s)(I|II|III|IV)\\. .*");
            promises += isPromise ? 1 : 0;
            terms += isTerm ? 1 : 0;
            if (isPromise || isTerm) {
                String words = part.replaceAll("\\s+", " ");
                Check.due("a sentence of '" + title + "' is quoted", quotes.stream().anyMatch(words::contains), true);
            }
        }
        Check.due("promises", promises, 33);
        Check.due("Terms", terms, 4);
        Check.close("SentencesTest");
    }

    /** What the tests quote, from sentences of some length on: a short one may stand anywhere. */
    private static List<String> quotes(Path folder) throws IOException {
        List<String> found = new ArrayList<>();
        try (Stream<Path> files = Files.list(folder)) {
            for (Path file : (Iterable<Path>) files.sorted()::iterator) {
                Matcher m = QUOTE.matcher(Files.readString(file, StandardCharsets.UTF_8));
                while (m.find()) {
                    String words = m.group(1).replaceAll("\"\\s*\\+\\s*\"", "").trim();
                    words = words.substring(1, words.length() - 1);
                    if (words.length() > 20) {
                        found.add(words);
                    }
                }
            }
        }
        return found;
    }
}
