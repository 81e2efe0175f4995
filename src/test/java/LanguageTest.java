import java.io.IOException;
import java.lang.reflect.Field;
import java.lang.reflect.Method;
import java.lang.reflect.Modifier;
import java.nio.file.Files;
import java.nio.file.Path;
import java.util.List;
import java.util.Set;
import java.util.TreeSet;
import java.util.regex.Matcher;
import java.util.regex.Pattern;

/** What a plain look can see of the rules of LANGUAGE.md; run in the folder of the project. */
public final class LanguageTest {
    private static final List<String> FORBIDDEN = List.of("->", "::", "\\w+Exact\\b", "\\bfinally\\b", "\\bcatch\\b",
        "\\bsynchronized\\b", "\\bassert\\b", "\\bSystem\\.(?!arraycopy)", "\\bRandom\\b", "\\bThread\\b", "\\bClass\\b",
        "\\bObject\\b", "\\bvar\\b", "\\bextends\\s+\\w*Exception", "\\.hashCode\\b", "\\.toString\\b", "\\bpackage\\b",
        "\\bprotected\\b", "\\bstatic\\s*\\{", "\\bwhile\\s*\\(\\s*true", "\\bfor\\s*\\(\\s*;", "[^\\x00-\\x7f]");

    public static void main(String[] args) throws IOException {
        String text = Files.readString(Path.of("src/main/java/HymnBoards.java"));
        String code = text.replaceAll("(?s)/\\*.*?\\*/", "").replaceAll("//[^\n]*", "").replaceAll("\"[^\"\n]*\"", "\"\"");
        for (String forbidden : FORBIDDEN) {
            Script.due(forbidden, Pattern.compile(forbidden).matcher(code).find(), false);
        }
        imports(code);
        lengths(text);
        members();
        for (Class<?> inside : HymnBoards.class.getDeclaredClasses()) {
            classInside(inside);
        }
        Script.due("few classes", HymnBoards.class.getDeclaredClasses().length <= 12, true);
        Script.end();
    }

    private static void imports(String code) {
        Matcher matcher = Pattern.compile("import\\s+([^;]*);").matcher(code);
        Set<String> found = new TreeSet<>();
        while (matcher.find()) {
            found.add(matcher.group(1));
        }
        Script.due("imports", found, Set.of("java.util.Arrays"));
    }

    private static void lengths(String text) {
        String[] lines = text.split("\n");
        int from = 0;
        for (int line = 0; line < lines.length; line++) {
            if (lines[line].matches(" {4,8}[\\w<>\\[\\] ]+\\(.*")) {
                from = line;
            }
            if (lines[line].matches(" {4,8}\\}")) {
                Script.due("length of what ends in line " + (line + 1), line - from <= 60 || isClass(lines, line), true);
            }
            Script.due("width of line " + (line + 1), lines[line].length() <= 120, true);
        }
    }

    private static boolean isClass(String[] lines, int end) {
        return lines[end].startsWith("    }") && !lines[end].startsWith("     ");
    }

    private static void members() {
        Set<String> face = new TreeSet<>();
        Set<String> hidden = new TreeSet<>();
        for (Method method : HymnBoards.class.getDeclaredMethods()) {
            (Modifier.isPublic(method.getModifiers()) ? face : hidden).add(method.getName());
            if (!Modifier.isPublic(method.getModifiers())) {
                Script.due("private: " + method, Modifier.isPrivate(method.getModifiers()), true);
            }
        }
        Script.due("methods of the face", face.size(), 48);
        hidden.retainAll(face);
        Script.due("private methods with a name of the face", hidden, Set.of());
        Set<String> constants = new TreeSet<>();
        for (Field field : HymnBoards.class.getDeclaredFields()) {
            if (Modifier.isPublic(field.getModifiers())) {
                constants.add(field.getName());
            } else {
                Script.due("private: " + field, Modifier.isPrivate(field.getModifiers()), true);
            }
        }
        Script.due("constants of the face", constants, Set.of("NONE", "FULL", "WRONG"));
        fewFields(HymnBoards.class);
        Script.due("constructors", HymnBoards.class.getDeclaredConstructors().length, 1);
        Script.due("final", Modifier.isFinal(HymnBoards.class.getModifiers()), true);
    }

    private static void classInside(Class<?> inside) {
        Script.due("static: " + inside, Modifier.isStatic(inside.getModifiers()), true);
        Script.due("not public: " + inside, Modifier.isPublic(inside.getModifiers()), false);
        fewFields(inside);
        for (Method method : inside.getDeclaredMethods()) {
            Script.due("parameters of " + method, method.getParameterCount() <= 7, true);
        }
    }

    private static void fewFields(Class<?> type) {
        int fields = 0;
        for (Field field : type.getDeclaredFields()) {
            if (Modifier.isStatic(field.getModifiers())) {
                Script.due("final: " + field, Modifier.isFinal(field.getModifiers()), true);
            } else {
                fields++;
            }
        }
        Script.due("few fields in " + type, fields <= 20, true);
    }
}
