import java.io.IOException;
import java.nio.file.Files;
import java.nio.file.Path;
import java.util.Collections;
import java.util.List;

/** The example of README.md answers what its comments say. */
public final class ReadmeTest {
    private static final Due due = new Due();

    public static void main(String[] args) throws IOException {
        theExample();
        theExampleIsThatOfTheReadme();
        due.end();
    }

    private static void theExample() {
        QueryPushCompiler x = new QueryPushCompiler(2); // tables 0 and 1, of width 2
        x.addRow(0, 1, 10, 0); // (1, 10): the third value is not looked at
        x.addRow(0, 2, 20, 0);
        x.addRow(1, 2, 200, 0);
        int left = x.scan(0);
        int right = x.scan(1);
        int both = x.join(left, right, 0, QueryPushCompiler.OUTER); // key column 0 on both sides
        int sorted = x.sort(both, 0, true);
        int rows = x.run(sorted); // 2: (2, 20, 2, 200) and (1, 10, 0, 0)
        int first = x.cell(0, 3); // 200
        int second = x.cell(1, 3); // 0: nothing on the right matched
        int refused = x.limit(both, 1); // CHILD_USED: both is the child of sorted already
        due.answer("rows", rows, 2);
        due.answer("first", first, 200);
        due.answer("second", second, 0);
        due.answer("refused", refused, QueryPushCompiler.CHILD_USED);
        due.result("sorted", x, 4, Due.row(2, 20, 2, 200), Due.row(1, 10, 0, 0));
    }

    private static void theExampleIsThatOfTheReadme() throws IOException {
        List<String> readme = linesOf("README.md");
        int from = readme.indexOf("```java") + 1;
        int to = from + readme.subList(from, readme.size()).indexOf("```");
        due.isTrue("README.md has an example", 0 < from && from < to);
        List<String> example = readme.subList(from, Math.max(from, to));
        List<String> tested = linesOf("src/test/java/ReadmeTest.java");
        due.isTrue("these lines are tested: " + example, Collections.indexOfSubList(tested, example) >= 0);
    }

    private static List<String> linesOf(String file) throws IOException {
        return Files.readAllLines(Path.of(file)).stream().map(String::strip).toList();
    }
}
