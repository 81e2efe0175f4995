import java.lang.reflect.Method;
import java.lang.reflect.Modifier;
import java.util.ArrayList;
import java.util.Arrays;
import java.util.Comparator;
import java.util.List;
import java.util.Random;

/** Random runs of 512 calls, each answer compared with the model's; the arguments are mostly fine ones. */
public final class ModelTest {
    private static final int RUNS = 400;
    private static final int CALLS = 512;
    private static final List<String> OFTEN = List.of("hang", "hang", "hang", "lose", "borrow", "hold", "buy", "undo",
        "setHymn", "would", "would", "bestBuy", "missing", "canShow", "place", "place", "place", "holes", "wouldFall");
    private static final String[] BREAKS = {";", " ", "(", ")", "9", "0", "(", ") 2", "x", "turn", "back", "card",
        "service 1", "; card 1 1", "; service 5", "A", "\u00e9", "61", "1000", "((", "; friend 1", "board", "8"};

    private final Random random;
    private final HymnBoards boards = new HymnBoards();
    private final Model model = new Model();
    private final int[] pool;
    private final List<String> log = new ArrayList<>();
    private int calls = 0;

    private ModelTest(int seed) {
        random = new Random(seed);
        pool = new int[2 + random.nextInt(4)];
        for (int index = 0; index < pool.length; index++) {
            pool[index] = random.nextInt(3) == 0 ? 6 + 3 * random.nextInt(2) : random.nextInt(10);
        }
    }

    public static void main(String[] args) {
        int runs = args.length > 0 ? Integer.parseInt(args[0]) : RUNS;
        int all = 0;
        for (int seed = 0; seed < runs; seed++) {
            ModelTest test = new ModelTest(seed);
            if (!test.run()) {
                System.out.println("run " + seed + " went wrong: " + test.log);
                System.exit(1);
            }
            all += test.calls;
        }
        System.out.println(all + " calls in " + runs + " runs answered as the model does");
    }

    private boolean run() {
        List<Method> methods = new ArrayList<>();
        for (Method method : HymnBoards.class.getDeclaredMethods()) {
            if (Modifier.isPublic(method.getModifiers()) && !List.of("append", "load").contains(method.getName())) {
                methods.add(method);
            }
        }
        methods.sort(Comparator.comparing(Method::getName));
        boolean fine = loadText(description());
        while (fine && calls < CALLS - 8) {
            if (random.nextInt(120) == 0) {
                fine = loadText(broken(description()));
            } else {
                String often = OFTEN.get(random.nextInt(OFTEN.size()));
                boolean any = random.nextInt(3) > 0;
                Method method = methods.get(random.nextInt(methods.size()));
                for (Method other : methods) {
                    method = !any && other.getName().equals(often) ? other : method;
                }
                fine = call(method);
            }
        }
        return fine;
    }

    private boolean loadText(String text) {
        for (int at = 0; at < text.length(); at += 8) {
            long bytes = 0;
            for (char sign : text.substring(at, Math.min(at + 8, text.length())).toCharArray()) {
                bytes = bytes << 8 | sign;
            }
            if (!same("append", "append " + bytes, boards.append(bytes), new long[] {bytes})) {
                return false;
            }
        }
        return same("load", "load " + text, boards.load(), new long[0])
            && same("loadError", "loadError", boards.loadError(), new long[0])
            && same("loadStatement", "loadStatement", boards.loadStatement(), new long[0]);
    }

    private boolean call(Method method) {
        Class<?>[] types = method.getParameterTypes();
        long[] numbers = arguments(method.getName(), types.length);
        Object[] given = new Object[types.length];
        for (int index = 0; index < types.length; index++) {
            given[index] = types[index] == boolean.class ? (Object) (numbers[index] == 1) : (Object) (int) numbers[index];
        }
        Object got;
        try {
            got = method.invoke(boards, given);
        } catch (ReflectiveOperationException e) {
            got = e.getCause().getClass();
        }
        return same(method.getName(), method.getName() + Arrays.toString(given), got, numbers);
    }

    private boolean same(String name, String call, Object got, long[] given) {
        calls++;
        Object want;
        try {
            want = model.answer(name, given);
        } catch (IndexOutOfBoundsException | IllegalArgumentException e) {
            want = e.getClass();
        }
        log.add(call + " = " + got);
        if (!got.equals(want)) {
            System.out.println(call + " answered " + got + ", the model " + want);
            return false;
        }
        return true;
    }

    private int below(int many) {
        return random.nextInt(Math.max(1, many));
    }

    private int digit() {
        return pool[random.nextInt(pool.length)];
    }

    private int hymn() {
        int hymn = digit();
        for (int more = random.nextInt(3); more > 0; more--) {
            hymn = hymn * 10 + digit();
        }
        return Math.max(1, hymn);
    }

    private int number() {
        int friends = model.many(5);
        return friends > 0 && random.nextInt(3) == 0 ? 100 + 10 * below(friends) + digit() : below(model.many(4));
    }

    private long[] arguments(String name, int many) {
        long[] numbers = fine(name);
        if (random.nextInt(25) == 0 && many > 0) {
            int[] odd = {-1, -2, 10, 12, 16, 7, 61, 1000, 0, 99, 130, Integer.MAX_VALUE, Integer.MIN_VALUE, 3, 15};
            numbers[below(many)] = odd[random.nextInt(odd.length)];
        }
        return Arrays.copyOf(numbers, many);
    }

    private long[] fine(String name) {
        int service = below(model.many(6));
        int board = below(model.many(0));
        int few = 1 + random.nextInt(3);
        switch (name) {
            case "size": return new long[] {random.nextInt(15)};
            case "card": return new long[] {number(), random.nextInt(4)};
            case "way": return new long[] {number(), digit()};
            case "lends": return new long[] {below(model.many(5)), digit()};
            case "loan": return new long[] {below(model.many(7)), random.nextInt(4)};
            case "rows": return new long[] {board};
            case "hymn": return new long[] {service, random.nextInt(8)};
            case "place": return new long[] {board, random.nextInt(4), random.nextInt(3), random.nextInt(3)};
            case "hung": return new long[] {board, random.nextInt(4)};
            case "free", "most", "lenders": return new long[] {digit()};
            case "canShow", "addService": return new long[] {hymn()};
            case "would": return new long[] {service, random.nextInt(7)};
            case "workFrom": return new long[] {service, below(model.many(6))};
            case "borrow": return new long[] {below(model.many(5)), digit(), random.nextInt(8) == 0 ? 21 : few};
            case "giveBack": return new long[] {below(model.many(7))};
            case "buy", "lose": return new long[] {below(model.many(4)), random.nextInt(12) == 0 ? 60 : few};
            case "addCard": return new long[] {digit(), random.nextBoolean() ? -1 : digit(), random.nextInt(3)};
            case "setTurn", "setSplit": return new long[] {random.nextInt(2)};
            case "setHymn": return new long[] {service, random.nextInt(7), hymn()};
            case "addHymn": return new long[] {service, hymn()};
            case "outputByte": return new long[] {random.nextInt(80)};
            case "saveSnapshot", "restoreSnapshot": return new long[] {random.nextInt(2)};
            default: return new long[] {service};
        }
    }

    private String description() {
        StringBuilder text = new StringBuilder("board");
        for (int board = 1 + random.nextInt(3); board > 0; board--) {
            text.append(' ').append(1 + random.nextInt(random.nextInt(3) == 0 ? 6 : 3));
        }
        text.append(random.nextInt(3) > 0 ? " turn" : "").append(random.nextInt(3) == 0 ? " split" : "");
        for (int card = random.nextInt(7); card > 0; card--) {
            text.append(";card ").append(digit()).append(random.nextBoolean() ? " back " + digit() : "");
            text.append(' ').append(random.nextInt(5));
        }
        for (int friend = random.nextInt(4); friend > 0; friend--) {
            text.append("; friend ").append(1 + random.nextInt(3));
            for (int digit = 0; digit < 10; digit++) {
                text.append(' ').append(random.nextInt(4));
            }
        }
        for (int service = random.nextInt(6); service > 0 && text.length() < 400; service--) {
            text.append(";service ").append(parts(0, 1));
        }
        return text.toString();
    }

    private String parts(int open, int least) {
        StringBuilder text = new StringBuilder();
        for (int part = least + random.nextInt(3); part > 0; part--) {
            if (open < 3 && random.nextInt(6) == 0) {
                text.append('(').append(parts(open + 1, 1)).append(')').append(1 + random.nextInt(2));
            } else {
                text.append(hymn());
            }
            text.append(part > 1 ? " " : "");
        }
        return text.toString();
    }

    private String broken(String text) {
        StringBuilder broken = new StringBuilder(text);
        for (int times = random.nextInt(3); times > 0; times--) {
            int at = random.nextInt(broken.length() + 1);
            if (random.nextBoolean()) {
                broken.delete(at, Math.min(broken.length(), at + 1 + random.nextInt(3)));
            } else {
                broken.insert(at, BREAKS[random.nextInt(BREAKS.length)]);
            }
        }
        return broken.substring(0, Math.min(broken.length(), 490));
    }
}
