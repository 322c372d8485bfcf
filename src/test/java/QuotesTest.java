import java.io.IOException;
import java.nio.file.Files;
import java.nio.file.Path;
import java.util.List;
import java.util.regex.Matcher;
import java.util.regex.Pattern;
import java.util.stream.Collectors;
import java.util.stream.Stream;

/** The sentences that the tests of edges name stand in the document; and each promise is named by one of them. */
public final class QuotesTest {
    private static final Pattern SENTENCE = Pattern.compile("Due\\.sentence\\(((?:\\s*\\+?\\s*\"(?:[^\"\\\\]|\\\\.)*\")+)\\)");
    private static final Pattern PIECE = Pattern.compile("\"((?:[^\"\\\\]|\\\\.)*)\"");

    public static void main(String[] args) throws IOException {
        Path root = Path.of(System.getProperty("project.root", "."));
        Path document = root.resolve("../shared/DOC.md");
        if (!Files.exists(document)) {
            System.out.println("QuotesTest: no document beside the project");
            return;
        }
        String words = oneLine(Files.readString(document));
        StringBuilder quoted = new StringBuilder();
        for (Path test : testsIn(root.resolve("src/test/java"))) {
            Matcher found = SENTENCE.matcher(Files.readString(test));
            while (found.find()) {
                String quote = oneLine(joined(found.group(1)));
                quoted.append(quote).append('\n');
                Due.is(test.getFileName() + ": stands in the document: " + quote, words.contains(quote) ? 1 : 0, 1);
            }
        }
        eachPromise(words, quoted.toString());
        Due.end("QuotesTest");
    }

    private static List<Path> testsIn(Path folder) throws IOException {
        try (Stream<Path> files = Files.list(folder)) {
            return files.filter(file -> file.getFileName().toString().matches("(Edges|Refused).*\\.java")).sorted()
                .collect(Collectors.toList());
        }
    }

    private static String oneLine(String text) {
        return text.replaceAll("\\s+", " ").trim();
    }

    private static String joined(String pieces) {
        StringBuilder all = new StringBuilder();
        Matcher piece = PIECE.matcher(pieces);
        while (piece.find()) {
            all.append(piece.group(1));
        }
        return all.toString();
    }

    /** What a promise says behind its face is quoted, whole or in a part. */
    private static void eachPromise(String words, String quoted) {
        for (int promise = 1; promise <= 28; promise++) {
            int from = words.indexOf("## Promise " + promise + ":");
            int to = words.indexOf("## ", from + 3);
            Due.is("promise " + promise + " stands in the document", from >= 0 && to > from ? 1 : 0, 1);
            if (from >= 0 && to > from) {
                String text = words.substring(from, to);
                boolean named = quoted.lines().anyMatch(quote -> text.contains(quote));
                Due.is("promise " + promise + " is quoted", named ? 1 : 0, 1);
            }
        }
    }
}
