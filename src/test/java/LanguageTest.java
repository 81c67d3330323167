import java.io.IOException;
import java.lang.reflect.Field;
import java.lang.reflect.Modifier;
import java.nio.file.Files;
import java.nio.file.Path;
import java.util.ArrayList;
import java.util.List;
import java.util.Set;
import java.util.regex.Matcher;
import java.util.regex.Pattern;

/** What a text and the class files can show of ../shared/LANGUAGE.md; run from the project's directory. */
public final class LanguageTest {
    private static final Path SOURCE = Path.of("src/main/java/FlowParts.java");

    /** Rule number and a pattern that must not be found. */
    private static final String[][] BARRED = {
        {"1", "^\\s*package\\b"}, {"1", "\\bprotected\\b"}, {"2", "->"}, {"2", "::"},
        {"3", "\\b(double|float|Object|var)\\b"}, {"4", "\\w+Exact\\b"}, {"4", "\\bSystem\\.(?!arraycopy\\b)"},
        {"4", "\\bString\\.(format|valueOf|join)\\b"}, {"5", "\\bstatic\\s*\\{"},
        {"6", "\\b(finally|synchronized|assert|extends\\s+\\w*Exception|getMessage)\\b"},
        {"6", "\\b(try|catch)\\b"}, {"6", "\\.(equals|hashCode|toString)\\("},
        {"12", "\\bnew (?!\\w+Exception\\b)\\w+\\([^)]"}, {"12", "\\bthis\\b"}, {"13", "\\b(Thread|Random|nanoTime)\\b"}
    };
    private static final Set<String> IMPORTS =
            Set.of("java.util.Arrays", "java.util.ArrayList", "java.util.List");
    private static final Set<String> THROWN =
            Set.of("IllegalStateException", "IllegalArgumentException", "IndexOutOfBoundsException");
    private static final Set<String> CONSTANTS = Set.of("int", "long", "boolean", "char", "String");

    private LanguageTest() {
    }

    private static void barredWords(String code) {
        for (String[] rule : BARRED) {
            Matcher found = Pattern.compile(rule[1], Pattern.MULTILINE).matcher(code);
            Due.holds("rule " + rule[0] + ", none of " + rule[1], !found.find());
        }
    }

    private static void onlyOf(String rule, String pattern, Set<String> allowed, String code) {
        Matcher found = Pattern.compile(pattern, Pattern.MULTILINE).matcher(code);
        while (found.find()) {
            Due.holds("rule " + rule + ", " + found.group(1), allowed.contains(found.group(1)));
        }
    }

    /** A method starts where a line of four or eight spaces ends in "{" behind a ")" or a throws. */
    private static void lengths(String[] lines) {
        for (int start = 0; start < lines.length; start++) {
            Matcher head = Pattern.compile("^( {4}| {8})\\S.*\\{$").matcher(lines[start]);
            if (!head.matches() || lines[start].contains(" class ")) {
                continue;
            }
            int end = start + 1;
            while (end < lines.length - 1 && !lines[end].equals(head.group(1) + "}")) {
                end++;
            }
            Due.holds("rule 11, a short method at line " + (start + 1), end - start <= 60);
        }
    }

    private static void classes() {
        List<Class<?>> all = new ArrayList<>(List.of(FlowParts.class.getDeclaredClasses()));
        all.add(FlowParts.class);
        Due.holds("rule 11, at most twelve classes", all.size() <= 12);
        for (Class<?> one : all) {
            int count = 0;
            for (Field field : one.getDeclaredFields()) {
                boolean constant = Modifier.isStatic(field.getModifiers());
                count += constant ? 0 : 1;
                Due.holds("rule 5, " + field, !constant || Modifier.isFinal(field.getModifiers())
                        && CONSTANTS.contains(field.getType().getSimpleName()));
            }
            Due.holds("rule 11, at most twenty fields of " + one.getName(), count <= 20);
        }
    }

    public static void main(String[] args) throws IOException {
        String text = Files.readString(SOURCE);
        String code = text.replaceAll("(?s)/\\*.*?\\*/", "").replaceAll("//.*", "")
                .replaceAll("\"[^\"\\n]*\"", "\"\"");
        Due.about("src/main/java/FlowParts.java keeps to ../shared/LANGUAGE.md");
        barredWords(code);
        onlyOf("4", "^import\\s+([\\w.*]+);", IMPORTS, code);
        onlyOf("6", "\\bthrow\\s+new\\s+(\\w+)", THROWN, code);
        Due.holds("rule 6, each throw makes its exception",
                !Pattern.compile("\\bthrow\\s+(?!new\\b)").matcher(code).find());
        Due.holds("one public class", code.split("\\bpublic (final )?class\\b").length == 2);
        Due.holds("characters 0 to 255 alone", text.chars().allMatch(c -> c < 256));
        lengths(text.split("\n"));
        classes();
        Due.end();
    }
}
