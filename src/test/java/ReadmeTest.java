import java.io.IOException;
import java.nio.file.Files;
import java.nio.file.Path;
import java.util.List;
import java.util.regex.Matcher;
import java.util.regex.Pattern;

/** README.md: the answers that it tells, its description, and the names of the tests; run in the folder of the project. */
public final class ReadmeTest {
    private static final Pattern CALL = Pattern.compile("boards\\.(\\w+\\([^;]*\\));\\s*// ([^:]*): .*");

    public static void main(String[] args) throws IOException {
        List<String> lines = Files.readAllLines(Path.of("README.md"));
        calls(lines);
        description(lines);
        tests(String.join("\n", lines));
        Script.end();
    }

    private static void calls(List<String> lines) {
        StringBuilder script = new StringBuilder();
        for (String line : lines) {
            Matcher matcher = CALL.matcher(line);
            if (matcher.matches()) {
                script.append(matcher.group(1).replace("HymnBoards.NONE", "-1")).append(" => ").append(matcher.group(2)).append('\n');
            }
            if (line.contains("the output is ")) {
                script.append("out => ").append(line.replaceFirst(".*the output is ", "")).append('\n');
            }
        }
        Script.due("calls in README.md", script.toString().split("\n").length, 20);
        Script.run("README.md", script.toString());
    }

    private static void description(List<String> lines) {
        for (String line : lines) {
            if (line.startsWith("    board ")) {
                Script.run("README.md", "load " + line.strip() + " => 1\n" + """
                    size(0) | rows(0) => 2
                    rows(1) => 3
                    size(2) => 1
                    size(4) | size(5) => 1
                    card(0, 0) => 6
                    card(0, 1) => 1
                    card(0, 2) => 2
                    lends(0, 1) => 1
                    borrow(0, 1, 1) => 0
                    loan(0, 3) => 2
                    writeService(0) => 12
                    out => 66 16 9 16 9
                    """);
            }
        }
    }

    private static void tests(String text) throws IOException {
        try (var files = Files.list(Path.of("src/test/java"))) {
            files.map(file -> file.getFileName().toString()).filter(name -> name.endsWith("Test.java"))
                .forEach(name -> Script.due(name + " is told of", text.contains("`" + name.replace(".java", "") + "`: "), true));
        }
    }
}
