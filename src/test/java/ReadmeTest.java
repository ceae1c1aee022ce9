import java.io.IOException;
import java.lang.reflect.Method;
import java.lang.reflect.Modifier;
import java.nio.file.Files;
import java.nio.file.Path;
import java.util.ArrayList;
import java.util.List;
import java.util.function.Supplier;

/** README.md's example answers what it says; .ci/run starts it at the project's root. */
public final class ReadmeTest {
    private final List<String> lines = new ArrayList<>();
    private int next = 0;

    private ReadmeTest(String readme) {
        String begin = "```java\n";
        int from = readme.indexOf(begin) + begin.length();
        for (String line : readme.substring(from, readme.indexOf("```", from)).split("\n")) {
            lines.add(line);
        }
    }

    public static void main(String[] args) throws IOException {
        String readme = Files.readString(Path.of("README.md"));
        new ReadmeTest(readme).example();
        for (Method m : NothingAboveThree.class.getDeclaredMethods()) {
            if (Modifier.isPublic(m.getModifiers())) {
                Check.due(true, m.getName() + " is told", () -> readme.contains("`" + m.getName() + "`"));
            }
        }
        Check.due(true, "how the tests are run", () -> readme.contains("`.ci/run`"));
        Check.end();
    }

    private void example() {
        NothingAboveThree x = new NothingAboveThree();
        Check.due("NothingAboveThree x = new NothingAboveThree();", "the first line", () -> lines.get(next));
        next++;
        shown("x.feed(0x70757420, 0x303b0000, 0, 0, 0);", () -> x.feed(0x70757420, 0x303b0000, 0, 0, 0));
        shown("x.way(6);", () -> x.way(6));
        shown("x.heap(0, 5);", () -> x.heap(0, 5));
        shown("x.run(0, 100);", () -> x.run(0, 100));
        shown("x.row(0);", () -> x.row(0));
        shown("Check.way(x, \"empty 0 4;take 0;put 1;go 0;\");", () -> Check.way(x, "empty 0 4;take 0;put 1;go 0;"));
        shown("Check.task(x, \"now 1=was 0+was 1;\");", () -> Check.task(x, "now 1=was 0+was 1;"));
        shown("x.holds(1, 0);", () -> x.holds(1, 0));
        shown("x.right(1, 0, 2, 3);", () -> x.right(1, 0, 2, 3));
        shown("x.least(0, 0, 2, 3);", () -> x.least(0, 0, 2, 3));
        shown("Check.task(x, \"now 0=was 0+2;\");", () -> Check.task(x, "now 0=was 0+2;"));
        shown("x.find(1, 1, 2, 3, 20000, 0);", () -> x.find(1, 1, 2, 3, 20000, 0));
        shown("x.keep(1, 1, 2, 3, 20000);", () -> x.keep(1, 1, 2, 3, 20000));
        shown("Check.way(x, \"put 12;\");", () -> Check.way(x, "put 12;"));
        shown("x.fault();", () -> x.fault());
        Check.due(lines.size(), "lines of the example", () -> next);
    }

    /** The next line is this call, and behind // stands what it answers, then a colon. */
    private void shown(String code, Supplier<?> call) {
        String line = next < lines.size() ? lines.get(next) : "";
        next++;
        int comment = Math.max(0, line.indexOf("// "));
        Check.due(code, "line " + next + " of the example", () -> line.substring(0, comment).trim());
        int colon = Math.max(comment, line.indexOf(':', comment));
        Check.due(line.substring(comment, colon).replace("// ", ""), code, call);
    }
}
