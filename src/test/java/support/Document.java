import java.io.IOException;
import java.io.UncheckedIOException;
import java.nio.file.Files;
import java.nio.file.Path;
import java.util.regex.Matcher;
import java.util.regex.Pattern;

/** What ../shared/DOC.md says, promise by promise, on one line each. */
final class Document {
    static final int PROMISES = 50;
    /** Under this number stand the document's first section and its terms. */
    static final int TERMS = 0;
    private static final String TEXT = read();

    private Document() {
    }

    private static String read() {
        try {
            return Files.readString(Path.of("../shared/DOC.md"));
        } catch (IOException e) {
            throw new UncheckedIOException(e);
        }
    }

    /** The words of a promise behind its call, or the terms. */
    static String of(int promise) {
        if (promise == TERMS) {
            return onOneLine(between("## What it is\n", "## The public face\n") + between("## Terms\n", "\nAhead of the calls"));
        }
        Matcher heading = Pattern.compile("(?m)^## Promise " + promise + ": .*$").matcher(TEXT);
        if (!heading.find()) {
            return "";
        }
        String behind = TEXT.substring(heading.end());
        int next = behind.indexOf("\n## ");
        String words = onOneLine(next < 0 ? behind : behind.substring(0, next));
        return words.replaceFirst("^`[^`]*`: ", "");
    }

    /** The call that a promise is of. */
    static String nameOf(int promise) {
        Matcher heading = Pattern.compile("(?m)^## Promise " + promise + ": (.*)$").matcher(TEXT);
        return heading.find() ? heading.group(1) : "";
    }

    /** The terms alone. */
    static String terms() {
        return onOneLine(between("## Terms\n", "\nAhead of the calls"));
    }

    static String onOneLine(String words) {
        return words.replaceAll("(?m)^```\\w*$", " ").replaceAll("\\s+", " ").trim();
    }

    private static String between(String from, String to) {
        int start = TEXT.indexOf(from) + from.length();
        return TEXT.substring(start, TEXT.indexOf(to, start)) + " ";
    }
}
