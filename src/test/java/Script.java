import java.lang.reflect.InvocationTargetException;
import java.lang.reflect.Method;

/**
 * Runs calls that are written as text, a line each, on a new object:
 * "new" takes a new object, "text TEXT" appends a text, "load TEXT => answer" appends a text and loads it,
 * "out => TEXT" reads the output, "name(arguments) => answer" calls a method, "call | call => answer" calls each, and
 * an answer may be the name of an exception behind "throws.".
 */
final class Script {
    private static final int MOST_CALLS = 512;
    private static int lines = 0;
    private static int wrong = 0;
    private HymnBoards boards = new HymnBoards();
    private int calls = 0;

    static void run(String name, String text) {
        Script script = new Script();
        for (String line : text.split("\n")) {
            if (!line.isBlank() && !line.strip().startsWith("#")) {
                script.line(name, line.strip());
            }
        }
    }

    static void end() {
        System.out.println(lines + " lines, " + wrong + " of them wrong");
        if (wrong != 0 || lines == 0) {
            System.exit(1);
        }
    }

    static void due(String what, Object got, Object want) {
        lines++;
        if (!got.equals(want)) {
            wrong++;
            System.out.println(what + " answered " + got + ", due is " + want);
        }
    }

    /** Returns how many calls it took. */
    static int appendText(HymnBoards boards, String text) {
        int calls = 0;
        for (int at = 0; at < text.length(); at += 8) {
            long bytes = 0;
            for (char sign : text.substring(at, Math.min(at + 8, text.length())).toCharArray()) {
                bytes = bytes << 8 | sign;
            }
            boards.append(bytes);
            calls++;
        }
        return calls;
    }

    static String output(HymnBoards boards) {
        StringBuilder text = new StringBuilder();
        for (int index = 0; boards.outputByte(index) != HymnBoards.NONE; index++) {
            text.append((char) boards.outputByte(index));
        }
        return text.toString();
    }

    private void line(String name, String line) {
        if (line.equals("new")) {
            boards = new HymnBoards();
            calls = 0;
            return;
        }
        if (line.startsWith("text ")) {
            answer(line);
            return;
        }
        int arrow = line.lastIndexOf("=>");
        if (arrow < 0) {
            due(name + ": " + line, "no answer", "a line with =>");
            return;
        }
        String want = line.substring(arrow + 2).strip();
        String left = line.substring(0, arrow).strip();
        for (String call : left.startsWith("load") ? new String[] {left} : left.split(" \\| ")) {
            due(name + ": " + call, answer(call), want);
        }
        if (calls > MOST_CALLS) {
            due(name + ": calls of one object", calls, "at most " + MOST_CALLS);
        }
    }

    int calls() {
        return calls;
    }

    HymnBoards boards() {
        return boards;
    }

    String answer(String call) {
        if (call.equals("out")) {
            String text = output(boards);
            calls += 2 * text.length() + 1;
            return text;
        }
        if (call.startsWith("text ")) {
            calls += appendText(boards, call.substring(5));
            return "";
        }
        if (call.equals("load") || call.startsWith("load ")) {
            calls += 1 + appendText(boards, call.equals("load") ? "" : call.substring(5));
            return String.valueOf(boards.load());
        }
        calls++;
        return String.valueOf(invoke(boards, call));
    }

    static Object invoke(HymnBoards boards, String call) {
        String name = call.substring(0, call.indexOf('('));
        String inside = call.substring(call.indexOf('(') + 1, call.lastIndexOf(')')).replace(" ", "");
        String[] words = inside.isEmpty() ? new String[0] : inside.split(",");
        for (Method method : HymnBoards.class.getMethods()) {
            if (method.getName().equals(name) && method.getParameterCount() == words.length
                    && method.getDeclaringClass() == HymnBoards.class) {
                return invoke(boards, method, words);
            }
        }
        return "there is no method " + call;
    }

    private static Object invoke(HymnBoards boards, Method method, String[] words) {
        Object[] arguments = new Object[words.length];
        for (int index = 0; index < words.length; index++) {
            Class<?> type = method.getParameterTypes()[index];
            if (type == boolean.class) {
                arguments[index] = Boolean.valueOf(words[index]);
            } else if (type == long.class) {
                arguments[index] = Long.decode(words[index]);
            } else {
                arguments[index] = Integer.valueOf(words[index]);
            }
        }
        try {
            return method.invoke(boards, arguments);
        } catch (InvocationTargetException e) {
            return "throws." + e.getCause().getClass().getSimpleName();
        } catch (IllegalAccessException e) {
            return e.toString();
        }
    }
}
