import java.io.IOException;
import java.lang.reflect.Method;
import java.lang.reflect.Modifier;
import java.nio.file.DirectoryStream;
import java.nio.file.Files;
import java.nio.file.Path;
import java.util.ArrayList;
import java.util.List;

/** README.md: its example answers what it says, and no call and no test is left out. Runs in the project's folder. */
public final class ReadmeTest extends DeskTest {
    private static final Path README = Path.of("README.md");
    private static final Path TESTS = Path.of("src/test/java");

    public static void main(String[] args) throws IOException {
        String text = Files.readString(README);
        exampleAnswersAsSaid();
        exampleIsTheOneThatRuns(Files.readAllLines(README));
        everyCallIsTold(text);
        everyTestIsListed(text);
        CHECKS.end();
    }

    private static void exampleAnswersAsSaid() {
        // The lines of the example, to the letter, but for their comments and the checks between them.
        ConsolidationDesk desk = new ConsolidationDesk();
        int child = desk.company(1);
        int cash = desk.account(1);
        int sales = desk.account(2);
        int shares = desk.account(3);
        int reserve = desk.account(4);
        desk.hold(0, child, 8000);
        desk.rate(1, 1250000, 1200000);
        desk.post(child, cash, ConsolidationDesk.NONE, 9000);
        desk.post(child, shares, ConsolidationDesk.NONE, -4000);
        desk.post(child, sales, 0, -5000);
        desk.historic(child, shares, -4400);
        if (desk.consolidate() == 0) {
            long groupCash = desk.group(cash);
            long difference = desk.trace(reserve, child, 0);
            long outside = desk.minority(child);
            long open = desk.openItem(0, 3);
            CHECKS.due("the example's group(cash)", groupCash, 11250);
            CHECKS.due("the example's trace(reserve, child, 0)", difference, -850);
            CHECKS.due("the example's minority(child)", outside, -2250);
            CHECKS.due("the example's openItem(0, 3)", open, -6000);
        }
        CHECKS.due("the example is consolidated", desk.consolidate(), 0);
    }

    private static void exampleIsTheOneThatRuns(List<String> readme) throws IOException {
        List<String> here = new ArrayList<>();
        for (String line : Files.readAllLines(TESTS.resolve("ReadmeTest.java"))) {
            here.add(line.strip());
        }
        int lines = 0;
        int from = readme.indexOf("```java") + 1;
        for (int i = from; !readme.get(i).equals("```"); i++) {
            String code = readme.get(i).replaceFirst("//.*", "").strip();
            CHECKS.due("ReadmeTest runs the example's line " + code, here.contains(code), true);
            lines++;
        }
        CHECKS.due("the example has lines", lines > 10, true);
        for (String due : List.of("// 11250:", "// -850:", "// -2250:", "// -6000:")) {
            boolean told = readme.stream().anyMatch(line -> line.contains(due));
            CHECKS.due("the example tells the answer " + due, told, true);
        }
    }

    private static void everyCallIsTold(String text) {
        for (Method m : ConsolidationDesk.class.getDeclaredMethods()) {
            if (Modifier.isPublic(m.getModifiers())) {
                CHECKS.due("README.md has a row for " + m.getName(),
                    text.contains("\n| `" + m.getName() + "("), true);
            }
        }
    }

    private static void everyTestIsListed(String text) throws IOException {
        try (DirectoryStream<Path> files = Files.newDirectoryStream(TESTS, "*.java")) {
            for (Path file : files) {
                String name = file.getFileName().toString().replace(".java", "");
                CHECKS.due("README.md has a row for " + name, text.contains("\n| `" + name + "` |"), true);
            }
        }
    }
}
