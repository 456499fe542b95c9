import java.lang.reflect.Field;
import java.lang.reflect.Method;
import java.lang.reflect.Modifier;
import java.nio.file.Files;
import java.nio.file.Path;
import java.util.ArrayList;
import java.util.List;
import java.util.Map;
import java.util.Set;
import java.util.TreeMap;
import java.util.TreeSet;
import java.util.regex.Matcher;
import java.util.regex.Pattern;

/** What README.md says of the class: its calls answer as it says, its tables name all that there is, once each. */
public final class ReadmeTest {
    private static final Pattern BLOCK = Pattern.compile("(?s)```java\n(.*?)```");
    private static final Pattern CALL = Pattern.compile("x\\.(\\w+)\\(([-\\d, ]*)\\);\\s+// (-?\\d+)(:.*)?");
    private static final Pattern WRITE = Pattern.compile("write\\(x, (\\d), \"([^\"]*)\"\\);");
    private static final Pattern CODE_NAME = Pattern.compile("`(\\w+)`");
    private static final Pattern CALL_NAME = Pattern.compile("(\\w+)\\(\\)");
    private static final Check CHECK = new Check("ReadmeTest");

    private final Map<String, Method> calls = callsOfTheFace();
    private final String page;
    private TiedRow x = new TiedRow();

    private ReadmeTest(String page) {
        this.page = page;
    }

    public static void main(String[] args) throws Exception {
        ReadmeTest test = new ReadmeTest(Files.readString(Path.of("README.md")));
        test.examples();
        test.answers();
        test.refusals();
        test.findings();
        CHECK.end();
    }

    private static Map<String, Method> callsOfTheFace() {
        Map<String, Method> out = new TreeMap<>();
        for (Method method : TiedRow.class.getDeclaredMethods()) {
            if (Modifier.isPublic(method.getModifiers())) {
                out.put(method.getName(), method);
            }
        }
        return out;
    }

    // ---- examples

    private void examples() throws Exception {
        String helper = onOneLine(Files.readString(Path.of("src/test/java/support/Check.java")));
        int looked = 0;
        Matcher block = BLOCK.matcher(page);
        while (block.find()) {
            if (block.group(1).startsWith("static void write(")) {
                CHECK.holds("write() is the one that the tests use", helper.contains(onOneLine(block.group(1))));
                continue;
            }
            for (String line : block.group(1).split("\n")) {
                looked += example(line) ? 1 : 0;
            }
        }
        CHECK.holds("examples are seen", looked > 20);
    }

    /** Whether the line is a call with its answer. */
    private boolean example(String line) throws Exception {
        Matcher call = CALL.matcher(line);
        if (call.matches()) {
            CHECK.due(line, answer(call.group(1), call.group(2)), Long.parseLong(call.group(3)));
            return true;
        }
        Matcher write = WRITE.matcher(line);
        if (write.matches()) {
            Check.write(x, Integer.parseInt(write.group(1)), write.group(2));
        } else if (line.equals("TiedRow x = new TiedRow();")) {
            x = new TiedRow();
        } else {
            CHECK.dueText("a line that is no call with its answer", line, "");
        }
        return false;
    }

    private long answer(String name, String numbers) throws Exception {
        List<Object> given = new ArrayList<>();
        for (String number : numbers.isEmpty() ? new String[0] : numbers.split(", ")) {
            given.add(Integer.parseInt(number));
        }
        return ((Number) calls.get(name).invoke(x, given.toArray())).longValue();
    }

    private static String onOneLine(String words) {
        return words.replaceAll("\\s+", " ").trim();
    }

    // ---- tables

    /** The rows of the table with this head, by their cells. */
    private List<String[]> table(String head) {
        List<String[]> out = new ArrayList<>();
        int start = page.indexOf(head + "\n");
        CHECK.holds("there is a table " + head, start >= 0);
        if (start >= 0) {
            String[] lines = page.substring(start).split("\n");
            for (int i = 2; i < lines.length && lines[i].startsWith("|"); i++) {
                out.add(lines[i].substring(1).trim().split("\\s*\\|\\s*", -1));
            }
        }
        return out;
    }

    /** Each call stands in one row, and those that tell by asked(), or a fraction, are the document's. */
    private void answers() {
        Set<String> all = new TreeSet<>(), byAsked = new TreeSet<>(), byFraction = new TreeSet<>();
        for (String[] cells : table("| calls | what they answer | what is told besides |")) {
            for (String name : named(CODE_NAME, cells[0])) {
                CHECK.holds(name + " stands in one row", all.add(name));
                if (cells[2].contains("`asked()`")) {
                    byAsked.add(name);
                }
                if (cells[2].contains("`upper()`, `lower()`")) {
                    byFraction.add(name);
                }
            }
        }
        CHECK.dueText("calls of the table", all.toString(), calls.keySet().toString());
        CHECK.dueText("calls that tell by asked()", byAsked.toString(), named(CALL_NAME, Document.of(44)).toString());
        Set<String> fractions = new TreeSet<>();
        for (int promise = 1; promise <= Document.PROMISES; promise++) {
            if (Document.of(promise).contains("told by upper(), lower()")) {
                fractions.add(Document.nameOf(promise));
            }
        }
        CHECK.dueText("calls that tell a fraction", byFraction.toString(), fractions.toString());
    }

    private static Set<String> named(Pattern pattern, String words) {
        Set<String> out = new TreeSet<>();
        Matcher name = pattern.matcher(words);
        while (name.find()) {
            out.add(name.group(1));
        }
        return out;
    }

    /** The constants but NONE, in the document's order. */
    private void refusals() throws IllegalAccessException {
        StringBuilder told = new StringBuilder();
        Map<String, Integer> values = new TreeMap<>();
        for (Field field : TiedRow.class.getFields()) {
            values.put(field.getName(), field.getInt(null));
        }
        for (String[] cells : table("| answer | number | why |")) {
            String name = cells[0].replace("`", "");
            told.append(name).append(' ');
            CHECK.dueText(name, cells[1], String.valueOf(values.remove(name)));
        }
        CHECK.dueText("refusals", told.toString(), "BAD FULL STATE SPENT FINDING ");
        CHECK.dueText("what is no refusal", values.toString(), "{NONE=-9}");
    }

    private void findings() {
        int due = 0;
        for (String[] cells : table("| finding | name | what was found |")) {
            due++;
            CHECK.dueText("a finding", cells[0], String.valueOf(due));
            CHECK.holds("the document has " + cells[1], Document.terms().contains(" " + due + " " + cells[1] + " ("));
        }
        CHECK.due("findings", due, Check.SIZE);
    }
}
