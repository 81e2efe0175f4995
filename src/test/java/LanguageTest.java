import java.io.IOException;
import java.lang.reflect.Array;
import java.lang.reflect.Field;
import java.lang.reflect.Method;
import java.lang.reflect.Modifier;
import java.nio.file.Files;
import java.nio.file.Path;
import java.util.ArrayDeque;
import java.util.ArrayList;
import java.util.Collections;
import java.util.Deque;
import java.util.IdentityHashMap;
import java.util.List;
import java.util.Map;
import java.util.Set;
import java.util.TreeSet;
import java.util.regex.Matcher;
import java.util.regex.Pattern;

/** What a plain look can see of the rules of LANGUAGE.md; run in the folder of the project. */
public final class LanguageTest {
    private static final List<String> FORBIDDEN = List.of("->", "::", "\\w+Exact\\b", "\\bfinally\\b", "\\bcatch\\b",
        "\\bsynchronized\\b", "\\bassert\\b", "\\bSystem\\.(?!arraycopy)", "\\bRandom\\b", "\\bThread\\b", "\\bClass\\b",
        "\\bObject\\b", "\\bvar\\b", "\\bextends\\s+\\w*Exception", "\\.hashCode\\b", "\\.toString\\b", "\\bpackage\\b",
        "\\bprotected\\b", "\\bstatic\\s*\\{", "\\bwhile\\s*\\(\\s*true", "\\bfor\\s*\\(\\s*;", "[^\\x00-\\x7f]");

    public static void main(String[] args) throws IOException {
        String text = Files.readString(Path.of("src/main/java/HymnBoards.java"));
        String code = text.replaceAll("(?s)/\\*.*?\\*/", "").replaceAll("//[^\n]*", "").replaceAll("\"[^\"\n]*\"", "\"\"");
        for (String forbidden : FORBIDDEN) {
            Script.due(forbidden, Pattern.compile(forbidden).matcher(code).find(), false);
        }
        imports(code);
        library(code);
        objects(code);
        room();
        lengths(text);
        members();
        for (Class<?> inside : HymnBoards.class.getDeclaredClasses()) {
            classInside(inside);
        }
        Script.due("few classes", HymnBoards.class.getDeclaredClasses().length <= 12, true);
        Script.end();
    }

    private static void imports(String code) {
        Matcher matcher = Pattern.compile("import\\s+([^;]*);").matcher(code);
        Set<String> found = new TreeSet<>();
        while (matcher.find()) {
            found.add(matcher.group(1));
        }
        Script.due("imports", found, Set.of("java.util.Arrays"));
    }

    private static void library(String code) {
        Matcher matcher = Pattern.compile("\\b(Math|Arrays|System|Integer|Long|Character|List)\\.\\w+").matcher(code);
        Set<String> found = new TreeSet<>();
        while (matcher.find()) {
            found.add(matcher.group());
        }
        found.remove("Arrays.fill");
        found.remove("Math.max");
        found.remove("Math.min");
        found.remove("System.arraycopy");
        Script.due("what else of the library is used", found, Set.of());
    }

    /** Objects are made with the object that holds them; a call makes an exception, or none. */
    private static void objects(String code) {
        boolean constructor = false;
        for (String line : code.split("\n")) {
            constructor = line.matches(" {4,8}(public )?(HymnBoards|[A-Z]\\w+)\\(\\) \\{") || constructor && !line.matches(" {4,8}}");
            if (line.matches(".*\\bnew\\b.*")) {
                boolean field = line.matches(" {4,8}(private )?(static )?final [\\w\\[\\]]+ \\w+ = new .*;");
                boolean thrown = line.matches(".*\\bthrow new I\\w+Exception\\(\"\"\\);");
                Script.due("made where it is held, or thrown: " + line.strip(), field || thrown || constructor, true);
            }
        }
    }

    /** All calls of a run live in one room: what an object holds is a small part of it, and stays the same. */
    private static void room() {
        Script calls = new Script();
        Set<Object> before = Collections.newSetFromMap(new IdentityHashMap<>());
        before.addAll(held(calls.boards()).keySet());
        Script.due("few objects", before.size() < 400, true);
        long elements = held(calls.boards()).values().stream().mapToLong(Integer::longValue).sum();
        Script.due("few fields and elements", elements < 10000, true);
        for (String call : List.of("load board 6 6 6 turn split;card 6 back 9 60;friend 1 9 9 9 9 9 9 9 9 9 9;service (66 9) 4",
                "borrow(0, 6, 9)", "hang(0)", "saveSnapshot(0)", "hold()", "undo()", "write()", "would(0, 6)", "bestBuy(0)",
                "addService(7)", "addCard(1, 2, 3)", "restoreSnapshot(0)", "size(99)", "load x")) {
            calls.answer(call);
        }
        Script.due("the same objects", before.equals(held(calls.boards()).keySet()), true);
    }

    /** The objects that an object holds, by their addresses, with the numbers of their fields or elements. */
    private static Map<Object, Integer> held(Object from) {
        Map<Object, Integer> held = new IdentityHashMap<>();
        Deque<Object> open = new ArrayDeque<>(List.of(from));
        while (!open.isEmpty()) {
            Object object = open.pop();
            List<Object> parts = new ArrayList<>();
            if (!held.containsKey(object)) {
                held.put(object, partsOf(object, parts));
            }
            open.addAll(parts);
        }
        return held;
    }

    private static int partsOf(Object object, List<Object> parts) {
        if (object instanceof Object[] many) {
            parts.addAll(List.of(many));
            return many.length;
        }
        if (object.getClass().isArray()) {
            return Array.getLength(object);
        }
        int fields = 0;
        for (Field field : object.getClass().getDeclaredFields()) {
            if (!Modifier.isStatic(field.getModifiers())) {
                fields++;
                if (!field.getType().isPrimitive()) {
                    parts.add(valueOf(field, object));
                }
            }
        }
        return fields;
    }

    private static Object valueOf(Field field, Object object) {
        try {
            field.setAccessible(true);
            return field.get(object);
        } catch (IllegalAccessException e) {
            return e;
        }
    }

    private static void lengths(String text) {
        String[] lines = text.split("\n");
        int from = 0;
        for (int line = 0; line < lines.length; line++) {
            if (lines[line].matches(" {4,8}[\\w<>\\[\\] ]+\\(.*")) {
                from = line;
            }
            if (lines[line].matches(" {4,8}\\}")) {
                Script.due("length of what ends in line " + (line + 1), line - from <= 60 || isClass(lines, line), true);
            }
            Script.due("width of line " + (line + 1), lines[line].length() <= 120, true);
        }
    }

    private static boolean isClass(String[] lines, int end) {
        return lines[end].startsWith("    }") && !lines[end].startsWith("     ");
    }

    private static void members() {
        Set<String> face = new TreeSet<>();
        Set<String> hidden = new TreeSet<>();
        for (Method method : HymnBoards.class.getDeclaredMethods()) {
            (Modifier.isPublic(method.getModifiers()) ? face : hidden).add(method.getName());
            if (!Modifier.isPublic(method.getModifiers())) {
                Script.due("private: " + method, Modifier.isPrivate(method.getModifiers()), true);
            }
        }
        Script.due("methods of the face", face.size(), 48);
        hidden.retainAll(face);
        Script.due("private methods with a name of the face", hidden, Set.of());
        Set<String> constants = new TreeSet<>();
        for (Field field : HymnBoards.class.getDeclaredFields()) {
            if (Modifier.isPublic(field.getModifiers())) {
                constants.add(field.getName());
            } else {
                Script.due("private: " + field, Modifier.isPrivate(field.getModifiers()), true);
            }
        }
        Script.due("constants of the face", constants, Set.of("NONE", "FULL", "WRONG"));
        fewFields(HymnBoards.class);
        Script.due("constructors", HymnBoards.class.getDeclaredConstructors().length, 1);
        Script.due("final", Modifier.isFinal(HymnBoards.class.getModifiers()), true);
    }

    private static void classInside(Class<?> inside) {
        Script.due("static: " + inside, Modifier.isStatic(inside.getModifiers()), true);
        Script.due("not public: " + inside, Modifier.isPublic(inside.getModifiers()), false);
        fewFields(inside);
        for (Method method : inside.getDeclaredMethods()) {
            Script.due("parameters of " + method, method.getParameterCount() <= 7, true);
        }
    }

    private static void fewFields(Class<?> type) {
        int fields = 0;
        for (Field field : type.getDeclaredFields()) {
            if (Modifier.isStatic(field.getModifiers())) {
                Script.due("final: " + field, Modifier.isFinal(field.getModifiers()), true);
            } else {
                fields++;
            }
        }
        Script.due("few fields in " + type, fields <= 20, true);
    }
}
