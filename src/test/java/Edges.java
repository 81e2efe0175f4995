import java.util.LinkedHashSet;
import java.util.Set;

/** Boundary cases: each test bears the number of a promise and names the sentence of the document that it holds. */
final class Edges {
    /** A promise and the sentence that a test names. */
    record Named(int promise, String sentence) { }

    static final Set<Named> NAMED = new LinkedHashSet<>();

    private Edges() { }

    /** Sentences are parted by ||, if a test holds several ones. */
    static String name(int promise, String sentences) {
        for (String sentence : sentences.split(" \\|\\| ")) {
            NAMED.add(new Named(promise, sentence));
        }
        return "promise " + promise + " \"" + sentences.replace(" || ", "\" and \"") + "\"";
    }

    /** Runs the lines of a script (see Script). */
    static void edge(int promise, String sentence, String script) {
        Script.run(name(promise, sentence), script);
    }

    /** Loads a text on a new object that has an error. */
    static void error(int promise, String sentence, String text, int kind, int position, int statement) {
        String name = name(promise, sentence) + ": '" + text + "'";
        HymnBoards boards = new HymnBoards();
        Script.appendText(boards, text);
        Script.due(name + " load()", boards.load(), -100 - position);
        Script.due(name + " loadError()", boards.loadError(), kind);
        Script.due(name + " loadStatement()", boards.loadStatement(), statement);
        Script.due(name + " buffer behind it", boards.append(0L), 0);
    }

    /** Loads a text on a new object that has no error. */
    static void fine(int promise, String sentence, String text, int services) {
        String name = name(promise, sentence) + ": '" + text + "'";
        HymnBoards boards = new HymnBoards();
        Script.appendText(boards, text);
        Script.due(name + " load()", boards.load(), services);
        Script.due(name + " loadError()", boards.loadError(), 0);
        Script.due(name + " loadStatement()", boards.loadStatement(), HymnBoards.NONE);
        Script.due(name + " buffer behind it", boards.append(0L), 0);
    }

    /** The same line some times, with # in place of a number that counts up from 0. */
    static String counted(int times, String line) {
        StringBuilder lines = new StringBuilder();
        for (int time = 0; time < times; time++) {
            lines.append(line.replace("#", String.valueOf(time))).append('\n');
        }
        return lines.toString();
    }
}
