import java.io.IOException;
import java.nio.file.Files;
import java.nio.file.Path;
import java.util.regex.Matcher;
import java.util.regex.Pattern;

/** What of LANGUAGE.md can be seen in the source's text; .ci/run starts it at the project's root. */
public final class LanguageTest {
    private static final String[] BARRED = {"->", "::", "\\btry\\b", "\\bcatch\\b", "\\bfinally\\b", "\\bassert\\b",
        "\\bsynchronized\\b", "\\bdouble\\b", "\\bfloat\\b", "\" \\+", "\\+ \"", "Exact\\(", "\\bSystem\\.(?!arraycopy)",
        "\\bprotected\\b", "\\bpackage\\b", "\\bthis\\.\\w+\\(", "hashCode", "toString", "static \\{", "\\bRandom\\b"};
    private static final String THROWN =
            "throw new (IllegalStateException|IllegalArgumentException|IndexOutOfBoundsException|NoSuchElementException)\\(\\);";

    public static void main(String[] args) throws IOException {
        String text = Files.readString(Path.of("src/main/java/NothingAboveThree.java"));
        String code = text.replaceAll("(?s)/\\*.*?\\*/", "").replaceAll("//[^\n]*", "");
        for (String barred : BARRED) {
            Check.due(false, "barred: " + barred, () -> Pattern.compile(barred).matcher(code).find());
        }
        Check.due(4 + 1, "throws, the refusals alone", () -> code.split("throw new", -1).length - 1);
        Check.due("", "what is thrown", () -> left(code, "throw [^\n]*", THROWN));
        Check.due("", "imports", () -> left(code, "import [^\n]*", "import java.util.(Arrays|NoSuchElementException);"));
        Check.due("", "of Arrays", () -> left(code, "Arrays\\.\\w+", "Arrays.(fill|copyOf)"));
        Check.due("", "of Math", () -> left(code, "Math\\.\\w+", "Math.(min|max)"));
        Check.due(true, "signs 1 to 127", () -> text.chars().allMatch(c -> c > 0 && c < 128));
        Check.end();
    }

    /** All that is found and is not of the form that is fine. */
    private static String left(String code, String sought, String fine) {
        StringBuilder left = new StringBuilder();
        Matcher m = Pattern.compile(sought).matcher(code);
        while (m.find()) {
            left.append(m.group().matches(fine) ? "" : m.group());
        }
        return left.toString();
    }
}
