import java.io.IOException;
import java.nio.file.DirectoryStream;
import java.nio.file.Files;
import java.nio.file.Path;
import java.util.ArrayList;
import java.util.List;
import java.util.regex.Matcher;
import java.util.regex.Pattern;

/** The answers written in README.md are those that the class gives, and every call and test is named there. */
public final class ReadmeTest {
    private ReadmeTest() {
    }

    /** README.md's example, with the answer of each call that has one written behind it. */
    private static List<Integer> example() {
        List<Integer> answers = new ArrayList<>();
        FlowParts x = new FlowParts();
        int direct = x.column(0, 5, 3);
        int first = x.column(0, 5, 1);
        int second = x.column(0, 5, 1);
        int from = x.row(1, -6);
        int middle = x.row(1, 0);
        int to = x.row(1, 6);
        x.term(from, direct, -1);
        x.term(to, direct, 1);
        x.term(from, first, -1);
        x.term(middle, first, 1);
        x.term(middle, second, -1);
        x.term(to, second, 1);
        answers.add(x.flow());
        answers.add(x.solve());
        answers.add(x.value());
        answers.add(x.at(direct));
        answers.add(x.price(to));
        x.bounds(first, 0, 0);
        answers.add(x.solve());
        answers.add(x.proof());
        answers.add(x.side());
        return answers;
    }

    private static void exampleIsTrue(String text) {
        List<Integer> written = new ArrayList<>();
        Matcher found = Pattern.compile("^x\\.\\w+\\([^)]*\\);\\s*// (-?\\d+)", Pattern.MULTILINE).matcher(text);
        while (found.find()) {
            written.add(Integer.valueOf(found.group(1)));
        }
        Due.same("the example's answers in README.md", written.toString(), example().toString());
    }

    private static void callsAreNamed(String text) {
        for (java.lang.reflect.Method method : FlowParts.class.getMethods()) {
            if (method.getDeclaringClass() == FlowParts.class) {
                Due.holds("README.md tells of " + method.getName() + "()",
                        Pattern.compile("\\b" + method.getName() + "\\(").matcher(text).find());
            }
        }
    }

    private static void testsAreNamed(String text) throws IOException {
        try (DirectoryStream<Path> files = Files.newDirectoryStream(Path.of("src/test/java"), "*Test.java")) {
            for (Path file : files) {
                String name = file.getFileName().toString().replace(".java", "");
                Due.holds("README.md tells of " + name, text.contains("`" + name + "`"));
            }
        }
        Due.holds("README.md says how to run the tests", text.contains(".ci/run"));
    }

    public static void main(String[] args) throws IOException {
        String text = Files.readString(Path.of("README.md"));
        Due.about("README.md says how to use the class and how to run its tests");
        exampleIsTrue(text);
        callsAreNamed(text);
        testsAreNamed(text);
        Due.end();
    }
}
