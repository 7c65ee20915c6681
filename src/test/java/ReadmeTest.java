import java.io.IOException;
import java.lang.reflect.Method;
import java.lang.reflect.Modifier;
import java.nio.file.DirectoryStream;
import java.nio.file.Files;
import java.nio.file.Path;
import java.util.List;

/** README.md: its example line by line, and that its tables name every method and every test. */
public final class ReadmeTest {
    private static final Check check = new Check();

    private final List<String> lines;
    private int next = 0;

    private ReadmeTest(List<String> lines) {
        this.lines = lines;
    }

    public static void main(String[] args) throws IOException {
        ReadmeTest readme = new ReadmeTest(Files.readAllLines(Path.of("README.md")));
        readme.example();
        readme.methods();
        readme.tests();
        check.end();
    }

    /** The next line of the example that tells an answer is this call, and tells the answer that it gives. */
    private void says(String call, int answer) {
        for (; next < lines.size(); next++) {
            String[] sides = lines.get(next).split(";\\s+// ", 2);
            if (sides.length == 2) {
                next++;
                check.due("README.md's line " + next + " is " + call, sides[0].equals(call) ? 1 : 0, 1);
                check.due(call, answer, Integer.parseInt(sides[1].split(":", 2)[0]));
                return;
            }
        }
        check.due("README.md has " + call, 0, 1);
    }

    private void example() {
        PuppetTurns stage = new PuppetTurns();
        int hero = stage.come(10, 10, 0, 0, 1);
        says("int hero = stage.come(10, 10, 0, 0, 1)", hero);
        int other = stage.come(12, 12, 1, 7, 2);
        says("int other = stage.come(12, 12, 1, 7, 2)", other);
        says("stage.setLimit(1)", stage.setLimit(1));
        says("stage.puppet(other, 8)", stage.puppet(other, 8));
        says("stage.setRule(2, 1)", stage.setRule(2, 1));
        says("stage.hiddenIn(other, 60)", stage.hiddenIn(other, 60));
        says("stage.frame()", stage.frame());
        for (char c : "3(f;u0;)".toCharArray()) {
            stage.append(c);
        }
        says("stage.run()", stage.run());
        says("stage.undo()", stage.undo());
        says("stage.clearText()", stage.clearText());
        says("stage.append('x')", stage.append('x'));
        says("stage.run()", stage.run());
        says("stage.failure(0)", stage.failure(0));
        for (; next < lines.size(); next++) {
            check.due("a line of the example without a test: " + lines.get(next),
                lines.get(next).matches(".*;\\s+// .*") ? 1 : 0, 0);
        }
    }

    private void isInTable(String name) {
        boolean found = false;
        for (String line : lines) {
            found |= line.matches("\\|[^|]*\\b" + name + "\\b[^|]*\\|.*");
        }
        check.due("a table of README.md names " + name, found ? 1 : 0, 1);
    }

    private void methods() {
        for (Method method : PuppetTurns.class.getDeclaredMethods()) {
            if (Modifier.isPublic(method.getModifiers())) {
                isInTable(method.getName());
            }
        }
    }

    private void tests() throws IOException {
        try (DirectoryStream<Path> files = Files.newDirectoryStream(Path.of("src/test/java"), "*Test.java")) {
            for (Path file : files) {
                isInTable(file.getFileName().toString().replace(".java", ""));
            }
        }
    }
}
