import java.io.IOException;
import java.nio.file.Files;
import java.nio.file.Path;
import java.util.LinkedHashMap;
import java.util.Map;
import java.util.Set;
import java.util.regex.Pattern;

/** Whether the sentences that tests name stand in the document, and whether each clause of it is named by a test. */
final class Sentences {
    private static final Path DOCUMENT = Path.of("../shared/DOC.md");
    private static final int TERMS = 0;
    /** What no test of a call can hold: headings, what the class is, and what is free. */
    private static final Set<String> WITHOUT_TEST = Set.of("1. Cards", "2. Boards", "3. Hanging", "4. Descriptions",
        "5. Actions and errors", "the first one is", "the others are", "The constants", "what later calls answer is free",
        "All numbers are integers, if nothing else is told");
    private static final String WHAT_IT_IS = "Boards in a church that show the numbers of hymns";
    /** FaceTest holds these. */
    private static final Pattern SIGNATURE = Pattern.compile("^((int|long|double|float|boolean) )?\\w+\\([^)]*\\)[^:]*: ");

    private Sentences() { }

    /** Text of the document by promises; 0 are the terms ahead of them. */
    private static Map<Integer, StringBuilder> parts() throws IOException {
        Map<Integer, StringBuilder> parts = new LinkedHashMap<>();
        int part = TERMS;
        boolean code = false;
        for (String line : Files.readAllLines(DOCUMENT)) {
            if (line.startsWith("## Promise ")) {
                part = Integer.parseInt(line.substring(11, line.indexOf(':')));
            } else if (line.startsWith("## Not promised")) {
                break;
            } else if (line.startsWith("```")) {
                code = !code;
            } else if (!code && !line.startsWith("#")) {
                parts.computeIfAbsent(part, key -> new StringBuilder()).append(plain(line)).append('\n');
            }
        }
        return parts;
    }

    private static String plain(String text) {
        return text.replace("`", "");
    }

    static void check() throws IOException {
        if (!Files.isReadable(DOCUMENT)) {
            System.out.println(DOCUMENT + " is not here: what the tests name is not looked up in it");
            return;
        }
        Map<Integer, StringBuilder> parts = parts();
        for (Edges.Named named : Edges.NAMED) {
            boolean stands = parts.get(TERMS).indexOf(plain(named.sentence())) >= 0
                || parts.get(named.promise()).indexOf(plain(named.sentence())) >= 0;
            Script.due("promise " + named.promise() + " names \"" + named.sentence() + "\", which stands there", stands, true);
        }
        parts.forEach(Sentences::lookForTests);
    }

    /** Each run of words that no test names must be one of those that no test can hold. */
    private static void lookForTests(int part, StringBuilder text) {
        for (String line : text.toString().split("\n")) {
            String words = SIGNATURE.matcher(line).replaceFirst("");
            if (words.startsWith(WHAT_IT_IS)) {
                continue;
            }
            for (String unnamed : withoutNamed(part, words).split("\n")) {
                String rest = unnamed.replaceAll("^\\W+|\\W+$", "");
                if (!rest.isEmpty() && !WITHOUT_TEST.contains(rest)) {
                    Script.due((part == TERMS ? "terms" : "promise " + part) + ": \"" + rest + "\" is named by a test", false, true);
                }
            }
            Script.due("line of the document was looked through", true, true);
        }
    }

    /** What is left of a line, with a line break in place of each sign that a test names. */
    private static String withoutNamed(int part, String line) {
        StringBuilder left = new StringBuilder(line);
        for (Edges.Named named : Edges.NAMED) {
            String sentence = plain(named.sentence());
            for (int at = line.indexOf(sentence); at >= 0; at = line.indexOf(sentence, at + 1)) {
                if (part == TERMS || named.promise() == part) {
                    left.replace(at, at + sentence.length(), "\n".repeat(sentence.length()));
                }
            }
        }
        return left.toString();
    }
}
