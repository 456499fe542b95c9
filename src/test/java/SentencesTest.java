import java.io.IOException;
import java.nio.file.DirectoryStream;
import java.nio.file.Files;
import java.nio.file.Path;
import java.util.ArrayList;
import java.util.Comparator;
import java.util.List;
import java.util.regex.Matcher;
import java.util.regex.Pattern;

/** Every sentence of the document's terms and promises is quoted by says() in some test: none is without one. */
public final class SentencesTest {
    private static final Pattern TEXT = Pattern.compile("\"((?:[^\"\\\\]|\\\\.)*)\"");
    private static final Pattern SAYS = Pattern.compile("\\.says\\((\\d+),\\s*(" + TEXT + "(?:\\s*\\+\\s*" + TEXT + ")*)\\)");
    private static final Check CHECK = new Check("SentencesTest");

    public static void main(String[] args) throws IOException {
        List<List<String>> quotes = new ArrayList<>();
        for (int promise = 0; promise <= Document.PROMISES; promise++) {
            quotes.add(new ArrayList<>());
        }
        try (DirectoryStream<Path> tests = Files.newDirectoryStream(Path.of("src/test/java"), "*Test.java")) {
            for (Path test : tests) {
                gather(Files.readString(test), quotes);
            }
        }
        CHECK.dueText("terms that no test quotes", leftOf(Document.terms(), quotes.get(Document.TERMS)), "");
        for (int promise = 1; promise <= Document.PROMISES; promise++) {
            String words = Document.of(promise);
            CHECK.holds("there is a promise " + promise, words.length() > 10);
            CHECK.dueText("what no test quotes of promise " + promise, leftOf(words, quotes.get(promise)), "");
        }
        CHECK.end();
    }

    private static void gather(String source, List<List<String>> quotes) {
        Matcher says = SAYS.matcher(source);
        while (says.find()) {
            StringBuilder sentence = new StringBuilder();
            Matcher part = TEXT.matcher(says.group(2));
            while (part.find()) {
                sentence.append(part.group(1));
            }
            quotes.get(Integer.parseInt(says.group(1))).add(sentence.toString());
        }
    }

    /** The words that are in none of the quotes, the longest of which come first. */
    private static String leftOf(String words, List<String> quotes) {
        List<String> longest = new ArrayList<>(quotes);
        longest.sort(Comparator.comparing(String::length).reversed());
        String left = words;
        for (String quote : longest) {
            left = left.replace(quote, "|");
        }
        String plain = left.replaceAll("[^A-Za-z]+", " ").trim();
        return plain.isEmpty() ? "" : left;
    }
}
