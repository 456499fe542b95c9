import java.io.IOException;
import java.lang.reflect.Field;
import java.lang.reflect.Method;
import java.lang.reflect.Modifier;
import java.nio.charset.StandardCharsets;
import java.nio.file.Files;
import java.nio.file.Path;
import java.util.ArrayList;
import java.util.Arrays;
import java.util.List;
import java.util.Set;
import java.util.TreeSet;
import java.util.regex.Matcher;
import java.util.regex.Pattern;

/** What of ../shared/LANGUAGE.md, and of the document's public face, can be seen in the program's text and classes. */
public final class LanguageTest {
    private static final Path SOURCE = Path.of("src/main/java/TiedRow.java");
    private static final Path DOCUMENT = Path.of("../shared/DOC.md");
    private static final Set<String> LIBRARY = Set.of("Arrays.fill", "Arrays.copyOf", "Arrays.copyOfRange",
        "System.arraycopy", "Math.min", "Math.max", "Math.abs", "Integer.bitCount");
    private static final Check CHECK = new Check("LanguageTest");

    public static void main(String[] args) throws IOException {
        face();
        String source = Files.readString(SOURCE, StandardCharsets.ISO_8859_1);
        signs(source);
        String bare = withoutTexts(source);
        words(bare);
        library(bare);
        methodLengths(bare);
        madeInConstructors(bare);
        for (Class<?> type : classes()) {
            members(type);
        }
        CHECK.holds("some twelve classes at most", classes().size() <= 12);
        CHECK.end();
    }

    private static List<Class<?>> classes() {
        List<Class<?>> out = new ArrayList<>();
        out.add(TiedRow.class);
        out.addAll(Arrays.asList(TiedRow.class.getDeclaredClasses()));
        return out;
    }

    /** Each line of the document's face is there, and no other public member. */
    private static void face() throws IOException {
        Set<String> want = new TreeSet<>();
        Pattern line = Pattern.compile("^    public (int|long) (\\w+)\\((.*)\\);$");
        for (String text : Files.readAllLines(DOCUMENT)) {
            Matcher found = line.matcher(text);
            if (found.matches()) {
                int numbers = found.group(3).isEmpty() ? 0 : found.group(3).split(",").length;
                want.add(found.group(1) + " " + found.group(2) + " " + numbers);
            }
        }
        Set<String> got = new TreeSet<>();
        for (Method method : TiedRow.class.getDeclaredMethods()) {
            if (!Modifier.isPrivate(method.getModifiers())) {
                CHECK.holds(method + " is public, not static", Modifier.isPublic(method.getModifiers()) && !Modifier.isStatic(method.getModifiers()));
                for (Class<?> type : method.getParameterTypes()) {
                    CHECK.holds(method + " takes ints", type == int.class);
                }
                got.add(method.getReturnType() + " " + method.getName() + " " + method.getParameterCount());
            }
        }
        CHECK.due("calls of the face", want.size(), 49);
        CHECK.dueText("the face", got.toString(), want.toString());
        CHECK.due("constructors", TiedRow.class.getDeclaredConstructors().length, 1);
        CHECK.due("public constructors", TiedRow.class.getConstructors().length, 1);
        CHECK.due("it takes nothing", TiedRow.class.getConstructors()[0].getParameterCount(), 0);
        CHECK.holds("public final class", TiedRow.class.getModifiers() == (Modifier.PUBLIC | Modifier.FINAL));
        Set<String> constants = new TreeSet<>();
        for (Field field : TiedRow.class.getDeclaredFields()) {
            if (!Modifier.isPrivate(field.getModifiers())) {
                constants.add(field.toString().replaceAll(".*TiedRow\\.", ""));
            }
        }
        CHECK.dueText("constants", constants.toString(), "[BAD, FINDING, FULL, NONE, SPENT, STATE]");
    }

    private static void members(Class<?> type) {
        Set<String> open = new TreeSet<>();
        for (Method method : TiedRow.class.getMethods()) {
            open.add(method.getName());
        }
        if (type != TiedRow.class) {
            CHECK.holds(type + " is static", Modifier.isStatic(type.getModifiers()));
            CHECK.holds(type + " is not public", (type.getModifiers() & (Modifier.PUBLIC | Modifier.PROTECTED)) == 0);
            CHECK.due(type + " has classes inside", type.getDeclaredClasses().length, 0);
        }
        for (Method method : type.getDeclaredMethods()) {
            CHECK.holds(method + " takes seven numbers at most", method.getParameterCount() <= 7);
            boolean ofFace = type == TiedRow.class && Modifier.isPublic(method.getModifiers());
            CHECK.holds(method + " bears no name of the face", ofFace || !open.contains(method.getName()));
            CHECK.holds(method + " is written by hand", !method.isSynthetic());
        }
        int fields = 0;
        for (Field field : type.getDeclaredFields()) {
            if (Modifier.isStatic(field.getModifiers())) {
                boolean plain = field.getType() == int.class || field.getType() == long.class;
                CHECK.holds(field + " is a constant", Modifier.isFinal(field.getModifiers()) && plain);
            } else {
                fields++;
            }
        }
        CHECK.holds(type + " has some twenty fields", fields <= 20);
    }

    private static void signs(String source) {
        boolean plain = true;
        for (int i = 0; i < source.length(); i++) {
            plain &= source.charAt(i) == '\n' || source.charAt(i) >= ' ' && source.charAt(i) < 127;
        }
        CHECK.holds("plain signs", plain);
    }

    private static String withoutTexts(String source) {
        return source.replaceAll("(?s)/\\*.*?\\*/", "").replaceAll("//[^\n]*", "").replaceAll("'.'", "0").replaceAll("\"[^\"\n]*\"", "0");
    }

    private static void words(String bare) {
        for (String word : new String[] {"throw", "throws", "try", "catch", "finally", "synchronized", "assert", "package",
            "protected", "double", "float", "while", "do", "goto", "native", "volatile", "transient", "var", "yield", "Object",
            "equals", "hashCode", "toString", "Exception", "Error", "Throwable", "Thread", "Random", "Override"}) {
            CHECK.holds("no word " + word, !Pattern.compile("\\b" + word + "\\b").matcher(bare).find());
        }
        for (String sign : new String[] {"->", "::", "@", "Exact", "\t"}) {
            CHECK.holds("no sign " + sign, !bare.contains(sign));
        }
        Matcher imports = Pattern.compile("(?m)^import (.*);$").matcher(bare);
        while (imports.find()) {
            CHECK.dueText("an import", imports.group(1), "java.util.Arrays");
        }
        // Every loop is a counted one: its head has an end.
        Matcher loops = Pattern.compile("\\bfor \\(([^;{}]*);([^;{}]*);([^;{}]*)\\) \\{").matcher(bare);
        int counted = 0;
        while (loops.find()) {
            counted++;
            CHECK.holds("for (" + loops.group(2) + ") has an end", loops.group(2).matches(".*(<|>|<=|>=).*"));
        }
        CHECK.due("all loops are counted", bare.split("\\bfor\\b").length - 1, counted);
    }

    private static void library(String bare) {
        Matcher calls = Pattern.compile("\\b([A-Z][a-z]\\w*)\\.(\\w+)").matcher(bare.replaceAll("(?m)^import .*$", ""));
        int found = 0;
        while (calls.find()) {
            found++;
            CHECK.holds(calls.group() + " is of the library", LIBRARY.contains(calls.group()));
        }
        CHECK.holds("library calls are seen", found > 10);
    }

    private static void methodLengths(String bare) {
        String[] lines = bare.split("\n");
        int start = -1;
        String indent = "";
        int seen = 0;
        for (int i = 0; i < lines.length; i++) {
            Matcher head = Pattern.compile("^((?:    ){1,2})\\w.*\\) \\{$").matcher(lines[i]);
            if (start < 0 && head.matches() && !lines[i].contains("class ")) {
                start = i;
                indent = head.group(1);
            } else if (start >= 0 && lines[i].equals(indent + "}")) {
                CHECK.holds("short: " + lines[start].trim(), i - start < 45);
                start = -1;
                seen++;
            }
        }
        CHECK.holds("methods are seen", seen > 100);
    }

    /** What is made is made by a field's first value or in a constructor: a call makes nothing (rule 12). */
    private static void madeInConstructors(String bare) {
        Pattern field = Pattern.compile("^ {4,8}(?:private )?final \\w+(?:\\[\\])* \\w+ = new .*;$");
        Pattern constructor = Pattern.compile("^( {4}| {8})(?:public |private )?[A-Z]\\w*\\([^()]*\\) \\{$");
        String end = "";
        int seen = 0;
        for (String line : bare.split("\n")) {
            Matcher found = constructor.matcher(line);
            if (found.matches()) {
                end = found.group(1) + "}";
            } else if (line.equals(end)) {
                end = "";
            }
            if (Pattern.compile("\\bnew\\b").matcher(line).find()) {
                seen++;
                CHECK.holds("made in a constructor: " + line.trim(), !end.isEmpty() || field.matcher(line).matches());
            }
            for (String maker : new String[] {"copyOf", "copyOfRange", "clone", "StringBuilder", "String", "ArrayList", "List"}) {
                CHECK.holds("no " + maker + ": " + line.trim(), !Pattern.compile("\\b" + maker + "\\b").matcher(line).find());
            }
        }
        CHECK.holds("what is made is seen", seen > 20);
    }
}
