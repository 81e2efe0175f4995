import java.io.IOException;
import java.lang.reflect.Constructor;
import java.lang.reflect.Field;
import java.lang.reflect.Method;
import java.lang.reflect.Modifier;
import java.nio.file.Files;
import java.nio.file.Path;
import java.util.Set;
import java.util.TreeSet;

/**
 * The public face: the class, its constants and its constructor, and each method with its types and the exceptions that it
 * declares, as the document writes it, in its list and at the promises.
 */
public final class FaceTest {
    private static final Path DOCUMENT = Path.of("../shared/DOC.md");
    private static final String INDEX = " throws IndexOutOfBoundsException";
    private static final String ARGUMENT = " throws IllegalArgumentException";
    private static final String BOTH = " throws IndexOutOfBoundsException, IllegalArgumentException";
    private static final Set<String> FACE = Set.of("int append(long)", "int load()", "int loadError()", "int loadStatement()",
        "int size(int)" + ARGUMENT, "int card(int, int)" + BOTH, "int way(int, int)" + BOTH, "int lends(int, int)" + BOTH,
        "int loan(int, int)" + BOTH, "int rows(int)" + INDEX, "int hymns(int)" + INDEX, "int hymn(int, int)" + INDEX,
        "int place(int, int, int, int)" + BOTH, "int hung(int, int)" + INDEX, "int holes()", "int free(int)" + ARGUMENT,
        "boolean canShow(int)" + ARGUMENT, "int most(int)" + ARGUMENT, "int would(int, int)" + BOTH, "int outAt(int)" + INDEX,
        "int missing(int)" + INDEX, "int bestBuy(int)" + INDEX, "int firstOut()", "int workFrom(int, int)" + INDEX,
        "int easiest()", "int wouldFall()", "int lenders(int)" + ARGUMENT, "int hang(int)" + INDEX, "int hold()", "int clear()",
        "int borrow(int, int, int)" + BOTH, "int giveBack(int)" + INDEX, "int buy(int, int)" + BOTH, "int lose(int, int)" + BOTH,
        "int addCard(int, int, int)" + ARGUMENT, "boolean setTurn(boolean)", "boolean setSplit(boolean)",
        "int setHymn(int, int, int)" + BOTH, "int addHymn(int, int)" + BOTH, "int addService(int)" + ARGUMENT, "double luck()",
        "float turned()", "int write()", "int writeService(int)" + INDEX, "int outputByte(int)", "int undo()",
        "int saveSnapshot(int)" + ARGUMENT, "int restoreSnapshot(int)" + ARGUMENT);

    private static final Set<String> CONSTANTS = Set.of("public static final int NONE = -1", "public static final int FULL = -2",
        "public static final int WRONG = -3");

    public static void main(String[] args) throws IOException, IllegalAccessException {
        Set<String> found = new TreeSet<>();
        for (Method method : HymnBoards.class.getDeclaredMethods()) {
            if (Modifier.isPublic(method.getModifiers())) {
                found.add(written(method));
                Script.due("not static: " + method, Modifier.isStatic(method.getModifiers()), false);
            }
        }
        Script.due("the face", found, new TreeSet<>(FACE));
        theClass();
        constants();
        if (Files.isReadable(DOCUMENT)) {
            Script.due("the document's face", inDocument(), new TreeSet<>(FACE));
            constantsInDocument();
            promisesInDocument();
        }
        Script.end();
    }

    private static void theClass() {
        Script.due("the class", Modifier.toString(HymnBoards.class.getModifiers()), "public final");
        Script.due("its package", HymnBoards.class.getPackageName(), "");
        Script.due("what it extends", HymnBoards.class.getSuperclass(), Object.class);
        Script.due("what it implements", HymnBoards.class.getInterfaces().length, 0);
        Script.due("its type parameters", HymnBoards.class.getTypeParameters().length, 0);
        Script.due("its constructors", HymnBoards.class.getDeclaredConstructors().length, 1);
        for (Constructor<?> constructor : HymnBoards.class.getConstructors()) {
            Script.due("its public constructor", constructor.toString(), "public HymnBoards()");
        }
        Script.due("its public constructors", HymnBoards.class.getConstructors().length, 1);
    }

    private static void constants() throws IllegalAccessException {
        Set<String> found = new TreeSet<>();
        for (Field field : HymnBoards.class.getFields()) {
            found.add(Modifier.toString(field.getModifiers()) + " " + field.getType() + " " + field.getName() + " = " + field.get(null));
        }
        Script.due("the constants", found, new TreeSet<>(CONSTANTS));
    }

    private static void constantsInDocument() throws IOException {
        Set<String> found = new TreeSet<>();
        for (String line : Files.readAllLines(DOCUMENT)) {
            if (line.startsWith("    public static ")) {
                found.add(line.strip().replace(";", ""));
            }
        }
        Script.due("the document's constants", found, new TreeSet<>(CONSTANTS));
    }

    /** The method under the heading of each promise, from 1 on. */
    private static void promisesInDocument() throws IOException {
        Set<String> found = new TreeSet<>();
        int promise = 0;
        String name = "";
        for (String line : Files.readAllLines(DOCUMENT)) {
            if (line.startsWith("## Promise ")) {
                promise++;
                Script.due("number of a promise", line.startsWith("## Promise " + promise + ": "), true);
                name = line.substring(line.indexOf(": ") + 2);
            } else if (promise > 1 && line.matches("`[^`]*\\)[^`]*`: .*")) {
                String call = withoutNames(line.substring(1, line.indexOf("`:")));
                Script.due("promise " + promise + ", " + name, call.contains(" " + name + "("), true);
                found.add(call);
            }
        }
        Script.due("promises", promise, FACE.size() + 1);
        Script.due("the promises' methods", found, new TreeSet<>(FACE));
    }

    private static String written(Method method) {
        StringBuilder text = new StringBuilder(method.getReturnType().getSimpleName()).append(' ').append(method.getName());
        text.append('(').append(names(method.getParameterTypes())).append(')');
        String thrown = names(method.getExceptionTypes());
        return text.append(thrown.isEmpty() ? "" : " throws " + thrown).toString();
    }

    private static String names(Class<?>[] types) {
        StringBuilder names = new StringBuilder();
        for (Class<?> type : types) {
            names.append(names.isEmpty() ? "" : ", ").append(type.getSimpleName());
        }
        return names.toString();
    }

    private static Set<String> inDocument() throws IOException {
        Set<String> found = new TreeSet<>();
        for (String line : Files.readAllLines(DOCUMENT)) {
            if (line.startsWith("    public ") && line.contains("(") && !line.contains("HymnBoards(")) {
                found.add(withoutNames(line.strip().replaceFirst("^public ", "").replaceFirst(";$", "")));
            }
        }
        return found;
    }

    /** Leaves the names of the arguments out. */
    private static String withoutNames(String call) {
        String inside = call.substring(call.indexOf('(') + 1, call.indexOf(')'));
        return call.replace("(" + inside + ")", "(" + inside.replaceAll(" \\w+(?=,|$)", "") + ")");
    }
}
