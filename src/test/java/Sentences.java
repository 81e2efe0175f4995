import java.io.IOException;
import java.nio.file.Files;
import java.nio.file.Path;
import java.util.LinkedHashMap;
import java.util.Map;
import java.util.Set;
import java.util.regex.Pattern;

/** Whether the sentences that tests name stand in the document, and whether each clause of it is named by a test. */
final class Sentences {
    private static final Path DOCUMENT = Path.of("../shared/DOC.md");
    private static final int TERMS = 0;
    /** Clauses that name no boundary case: headings, what is told of all calls, what a clause behind it tells. */
    private static final Set<String> WITHOUT_EDGE = Set.of("Cards", "Boards", "Hanging", "Descriptions", "Actions and errors",
        "the first one is", "the others are", "what later calls answer is free",
        "All numbers are integers, if nothing else is told", "Returns the number", "Returns the service", "Returns a number",
        "Returns a number of a card", "Returns in which way a card can show a digit", "Returns a number of a loan",
        "Returns how many rows a board has", "Returns a hymn of a service", "Returns what is at a place",
        "Returns the hymn that was hung in a row", "Returns a byte of the output");
    /** Arguments whose boundary is told by the clause that throws, and what the class is. */
    private static final Pattern ANY = Pattern.compile("- \\w+: (a service|a friend|a board|a loan|the bytes|whether .*)"
        + "|Boards in a church that show .*");
    private static final Pattern SIGNATURE = Pattern.compile("^(int|long|double|float|boolean) \\w+\\([^)]*\\)[^:]*: ");

    private Sentences() { }

    /** Text of the document by promises; 0 are the terms ahead of them. */
    private static Map<Integer, StringBuilder> parts() throws IOException {
        Map<Integer, StringBuilder> parts = new LinkedHashMap<>();
        int part = TERMS;
        boolean code = false;
        for (String line : Files.readAllLines(DOCUMENT)) {
            if (line.startsWith("## Promise ")) {
                part = Integer.parseInt(line.substring(11, line.indexOf(':')));
            } else if (line.startsWith("## Not promised")) {
                break;
            } else if (line.startsWith("```")) {
                code = !code;
            } else if (!code && !line.startsWith("#")) {
                parts.computeIfAbsent(part, key -> new StringBuilder()).append(plain(line)).append('\n');
            }
        }
        return parts;
    }

    private static String plain(String text) {
        return text.replace("`", "");
    }

    static void check() throws IOException {
        if (!Files.isReadable(DOCUMENT)) {
            System.out.println(DOCUMENT + " is not here: what the tests name is not looked up in it");
            return;
        }
        Map<Integer, StringBuilder> parts = parts();
        for (Edges.Named named : Edges.NAMED) {
            boolean stands = parts.get(TERMS).indexOf(plain(named.sentence())) >= 0
                || parts.get(named.promise()).indexOf(plain(named.sentence())) >= 0;
            Script.due("promise " + named.promise() + " names \"" + named.sentence() + "\", which stands there", stands, true);
        }
        parts.forEach(Sentences::lookForTests);
    }

    private static void lookForTests(int part, StringBuilder text) {
        for (String line : text.toString().split("\n")) {
            for (String clause : SIGNATURE.matcher(line).replaceFirst("").split("[.;] |[.;]$")) {
                String words = clause.strip().replaceFirst("^- ", "");
                if (!words.isEmpty() && !WITHOUT_EDGE.contains(words) && !ANY.matcher(line).matches()) {
                    Script.due((part == TERMS ? "terms" : "promise " + part) + ": \"" + words + "\" is named by a test",
                        isNamed(part, words), true);
                }
            }
        }
    }

    private static boolean isNamed(int part, String clause) {
        for (Edges.Named named : Edges.NAMED) {
            String sentence = plain(named.sentence());
            if ((part == TERMS || named.promise() == part) && (clause.contains(sentence) || sentence.contains(clause))) {
                return true;
            }
        }
        return false;
    }
}
