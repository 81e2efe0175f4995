import java.io.IOException;
import java.lang.reflect.Method;
import java.lang.reflect.Modifier;
import java.nio.file.Files;
import java.nio.file.Path;
import java.util.Set;
import java.util.TreeSet;

/** The public face: each method with its types and the exceptions that it declares, as the document writes it. */
public final class FaceTest {
    private static final Path DOCUMENT = Path.of("../shared/DOC.md");
    private static final String INDEX = " throws IndexOutOfBoundsException";
    private static final String ARGUMENT = " throws IllegalArgumentException";
    private static final String BOTH = " throws IndexOutOfBoundsException, IllegalArgumentException";
    private static final Set<String> FACE = Set.of("int append(long)", "int load()", "int loadError()", "int loadStatement()",
        "int size(int)" + ARGUMENT, "int card(int, int)" + BOTH, "int way(int, int)" + BOTH, "int lends(int, int)" + BOTH,
        "int loan(int, int)" + BOTH, "int rows(int)" + INDEX, "int hymns(int)" + INDEX, "int hymn(int, int)" + INDEX,
        "int place(int, int, int, int)" + BOTH, "int hung(int, int)" + INDEX, "int holes()", "int free(int)" + ARGUMENT,
        "boolean canShow(int)" + ARGUMENT, "int most(int)" + ARGUMENT, "int would(int, int)" + BOTH, "int outAt(int)" + INDEX,
        "int missing(int)" + INDEX, "int bestBuy(int)" + INDEX, "int firstOut()", "int workFrom(int, int)" + INDEX,
        "int easiest()", "int wouldFall()", "int lenders(int)" + ARGUMENT, "int hang(int)" + INDEX, "int hold()", "int clear()",
        "int borrow(int, int, int)" + BOTH, "int giveBack(int)" + INDEX, "int buy(int, int)" + BOTH, "int lose(int, int)" + BOTH,
        "int addCard(int, int, int)" + ARGUMENT, "boolean setTurn(boolean)", "boolean setSplit(boolean)",
        "int setHymn(int, int, int)" + BOTH, "int addHymn(int, int)" + BOTH, "int addService(int)" + ARGUMENT, "double luck()",
        "float turned()", "int write()", "int writeService(int)" + INDEX, "int outputByte(int)", "int undo()",
        "int saveSnapshot(int)" + ARGUMENT, "int restoreSnapshot(int)" + ARGUMENT);

    public static void main(String[] args) throws IOException {
        Set<String> found = new TreeSet<>();
        for (Method method : HymnBoards.class.getDeclaredMethods()) {
            if (Modifier.isPublic(method.getModifiers())) {
                found.add(written(method));
                Script.due("not static: " + method, Modifier.isStatic(method.getModifiers()), false);
            }
        }
        Script.due("the face", found, new TreeSet<>(FACE));
        if (Files.isReadable(DOCUMENT)) {
            Script.due("the document's face", inDocument(), new TreeSet<>(FACE));
        }
        Script.end();
    }

    private static String written(Method method) {
        StringBuilder text = new StringBuilder(method.getReturnType().getSimpleName()).append(' ').append(method.getName());
        text.append('(').append(names(method.getParameterTypes())).append(')');
        String thrown = names(method.getExceptionTypes());
        return text.append(thrown.isEmpty() ? "" : " throws " + thrown).toString();
    }

    private static String names(Class<?>[] types) {
        StringBuilder names = new StringBuilder();
        for (Class<?> type : types) {
            names.append(names.isEmpty() ? "" : ", ").append(type.getSimpleName());
        }
        return names.toString();
    }

    private static Set<String> inDocument() throws IOException {
        Set<String> found = new TreeSet<>();
        for (String line : Files.readAllLines(DOCUMENT)) {
            if (line.startsWith("    public ") && line.contains("(") && !line.contains("HymnBoards(")) {
                String call = line.strip().replaceFirst("^public ", "").replaceFirst(";$", "");
                String inside = call.substring(call.indexOf('(') + 1, call.indexOf(')'));
                found.add(call.replace("(" + inside + ")", "(" + inside.replaceAll(" \\w+(?=,|$)", "") + ")"));
            }
        }
        return found;
    }
}
