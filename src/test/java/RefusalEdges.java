import java.util.ArrayList;
import java.util.HashMap;
import java.util.List;
import java.util.Map;

/**
 * What a call leaves as it was: the same calls are made on two new objects, on one of them with the call more, and both
 * then tell the same: at once, behind each number of actions that are taken back, from both snapshots, and from what
 * their input buffers hold.
 */
final class RefusalEdges {
    private static final String REFUSED = "A method that returns WRONG or FULL or throws an exception changes nothing, "
        + "except as load() says";
    private static final String UNCHANGED = "What would be is told without changing anything";
    private static final String INDEX = " => throws.IndexOutOfBoundsException";
    private static final String ARGUMENT = " => throws.IllegalArgumentException";

    private static final List<String> ALL = List.of("load board 2 1 turn; card 6 back 1 2; card 2 5;"
        + "friend 1 0 2 1 0 0 0 0 0 0 20; friend 2 0 1 0 0 0 0 0 0 0 3; service 61 2; service 169 (2) 2; service 222",
        "hang(1)", "saveSnapshot(0)", "borrow(0, 9, 2)", "borrow(1, 1, 1)", "hang(0)", "lose(0, 1)", "saveSnapshot(1)",
        "setHymn(2, 0, 225)", "write()", "text board 3 3 split;service 7");
    private static final List<String> NOTHING = List.of("load board 1");
    private static final List<List<String>> THEN = List.of(List.of(), List.of("undo()"), List.of("undo()", "undo()"),
        List.of("undo()", "undo()", "undo()"), undoTimes(4), undoTimes(5), undoTimes(6), undoTimes(7), undoTimes(8),
        undoTimes(9), List.of("restoreSnapshot(0)"), List.of("restoreSnapshot(1)"), List.of("load"));

    private static final Map<String, String> TOLD = new HashMap<>();

    private RefusalEdges() { }

    static void all() {
        indexes();
        arguments();
        answers();
        full();
        nothingToTakeBack();
        errorsOfLoad();
        whatIsTold();
        whatIsWritten();
        whatIsTakenBack();
    }

    private static List<String> undoTimes(int times) {
        List<String> undo = new ArrayList<>();
        for (int time = 0; time < times; time++) {
            undo.add("undo()");
        }
        return undo;
    }

    private static String told(List<String> calls, List<String> more, List<String> then, boolean output, boolean load) {
        String key = calls + "" + more + then + output + load;
        if (!TOLD.containsKey(key)) {
            Script script = new Script();
            for (List<String> part : List.of(calls, more, then)) {
                part.forEach(script::answer);
            }
            TOLD.put(key, Look.at(script, output, load));
        }
        return TOLD.get(key);
    }

    private static void same(String name, List<String> calls, List<String> more, boolean output, boolean load) {
        for (List<String> then : THEN) {
            Script.due(name + " and then " + then, told(calls, more, then, output, load), told(calls, List.of(), then, output, load));
        }
    }

    /** Each line is a call with its answer. */
    private static void refused(int promise, List<String> calls, String... lines) {
        changesNothing(promise, REFUSED, calls, true, lines);
    }

    private static void changesNothing(int promise, String sentence, List<String> calls, boolean output, String... lines) {
        String name = Edges.name(promise, sentence);
        for (String line : lines) {
            String call = line.substring(0, line.indexOf(" => "));
            Script script = new Script();
            calls.forEach(script::answer);
            Script.due(name + ": " + call, script.answer(call), line.substring(line.indexOf(" => ") + 4));
            same(name + ": " + call, calls, List.of(call), output, true);
        }
    }

    private static void indexes() {
        refused(7, ALL, "card(-1, 0)" + INDEX, "card(2, 0)" + INDEX, "card(120, 0)" + INDEX);
        refused(8, ALL, "way(-1, 0)" + INDEX, "way(2, 0)" + INDEX, "way(120, 0)" + INDEX);
        refused(9, ALL, "lends(-1, 0)" + INDEX, "lends(2, 0)" + INDEX);
        refused(10, ALL, "loan(-1, 0)" + INDEX, "loan(2, 0)" + INDEX);
        refused(11, ALL, "rows(-1)" + INDEX, "rows(2)" + INDEX);
        refused(12, ALL, "hymns(-1)" + INDEX, "hymns(3)" + INDEX);
        refused(13, ALL, "hymn(-1, 0)" + INDEX, "hymn(3, 0)" + INDEX);
        refused(14, ALL, "place(2, 0, 0, 0)" + INDEX, "place(0, 2, 0, 0)" + INDEX, "place(0, -1, 0, 0)" + INDEX);
        refused(15, ALL, "hung(2, 0)" + INDEX, "hung(-1, 0)" + INDEX, "hung(1, 1)" + INDEX);
        refused(20, ALL, "would(-1, 0)" + INDEX, "would(3, 0)" + INDEX);
        refused(21, ALL, "outAt(-1)" + INDEX, "outAt(3)" + INDEX);
        refused(22, ALL, "missing(-1)" + INDEX, "missing(3)" + INDEX);
        refused(23, ALL, "bestBuy(-1)" + INDEX, "bestBuy(3)" + INDEX);
        refused(25, ALL, "workFrom(-1, 0)" + INDEX, "workFrom(0, 3)" + INDEX, "workFrom(3, 0)" + INDEX);
        refused(29, ALL, "hang(-1)" + INDEX, "hang(3)" + INDEX);
        refused(32, ALL, "borrow(-1, 9, 1)" + INDEX, "borrow(2, 9, 1)" + INDEX);
        refused(33, ALL, "giveBack(-1)" + INDEX, "giveBack(2)" + INDEX);
        refused(34, ALL, "buy(-1, 1)" + INDEX, "buy(2, 1)" + INDEX, "buy(109, 1)" + INDEX);
        refused(35, ALL, "lose(-1, 1)" + INDEX, "lose(2, 1)" + INDEX, "lose(109, 1)" + INDEX);
        refused(39, ALL, "setHymn(-1, 0, 5)" + INDEX, "setHymn(3, 0, 5)" + INDEX);
        refused(40, ALL, "addHymn(-1, 5)" + INDEX, "addHymn(3, 5)" + INDEX);
        refused(45, ALL, "writeService(-1)" + INDEX, "writeService(3)" + INDEX);
    }

    private static void arguments() {
        refused(6, ALL, "size(-1)" + ARGUMENT, "size(15)" + ARGUMENT);
        refused(7, ALL, "card(0, -1)" + ARGUMENT, "card(0, 4)" + ARGUMENT);
        refused(8, ALL, "way(0, -1)" + ARGUMENT, "way(0, 10)" + ARGUMENT);
        refused(9, ALL, "lends(0, -1)" + ARGUMENT, "lends(0, 10)" + ARGUMENT);
        refused(10, ALL, "loan(0, -1)" + ARGUMENT, "loan(0, 4)" + ARGUMENT);
        refused(14, ALL, "place(0, 0, -1, 0)" + ARGUMENT, "place(0, 0, 3, 0)" + ARGUMENT, "place(0, 0, 0, -1)" + ARGUMENT,
            "place(0, 0, 0, 3)" + ARGUMENT);
        refused(17, ALL, "free(-1)" + ARGUMENT, "free(10)" + ARGUMENT);
        refused(18, ALL, "canShow(0)" + ARGUMENT, "canShow(1000)" + ARGUMENT);
        refused(19, ALL, "most(-1)" + ARGUMENT, "most(10)" + ARGUMENT);
        refused(20, ALL, "would(0, -1)" + ARGUMENT, "would(0, 7)" + ARGUMENT);
        refused(28, ALL, "lenders(-1)" + ARGUMENT, "lenders(10)" + ARGUMENT);
        refused(32, ALL, "borrow(0, -1, 1)" + ARGUMENT, "borrow(0, 10, 1)" + ARGUMENT, "borrow(0, 9, 0)" + ARGUMENT,
            "borrow(0, 9, 61)" + ARGUMENT);
        refused(34, ALL, "buy(0, 0)" + ARGUMENT, "buy(0, 61)" + ARGUMENT);
        refused(35, ALL, "lose(0, 0)" + ARGUMENT, "lose(0, 61)" + ARGUMENT);
        refused(36, ALL, "addCard(-1, 0, 1)" + ARGUMENT, "addCard(10, 0, 1)" + ARGUMENT, "addCard(0, -2, 1)" + ARGUMENT,
            "addCard(0, 10, 1)" + ARGUMENT, "addCard(0, 0, -1)" + ARGUMENT, "addCard(0, 0, 61)" + ARGUMENT);
        refused(39, ALL, "setHymn(0, 0, 0)" + ARGUMENT, "setHymn(0, 0, 1000)" + ARGUMENT);
        refused(40, ALL, "addHymn(0, 0)" + ARGUMENT, "addHymn(0, 1000)" + ARGUMENT);
        refused(41, ALL, "addService(0)" + ARGUMENT, "addService(1000)" + ARGUMENT);
        refused(48, ALL, "saveSnapshot(-1)" + ARGUMENT, "saveSnapshot(2)" + ARGUMENT);
        refused(49, ALL, "restoreSnapshot(-1)" + ARGUMENT, "restoreSnapshot(2)" + ARGUMENT);
    }

    /** WRONG and FULL that what ALL holds is enough for. */
    private static void answers() {
        refused(30, NOTHING, "hold() => -3");
        refused(30, with(ALL, "clear()"), "hold() => -3");
        refused(32, ALL, "borrow(0, 9, 19) => -3", "borrow(1, 1, 1) => -3", "borrow(1, 0, 60) => -3");
        refused(34, ALL, "buy(0, 60) => -2", "buy(1, 56) => -2");
        refused(35, ALL, "lose(0, 2) => -3", "lose(1, 60) => -3");
        refused(39, ALL, "setHymn(0, 2, 5) => -3", "setHymn(0, -1, 5) => -3", "setHymn(2, 1, 5) => -3");
        refused(46, ALL, "outputByte(-1) => -1", "outputByte(11) => -1");
    }

    private static void full() {
        List<String> buffer = List.of("load board 2;card 1 1;service 1", "hang(0)", "text " + " ".repeat(487) + "board 3 3");
        refused(2, buffer, "append(0x2020202020) => -2", "append(0x3131313131) => -2", "append(-1) => -2");
        refused(2, with(buffer, "append(0x20202020)"), "append(0x20) => -2", "append(0x31) => -2");
        List<String> loans = new ArrayList<>(List.of("load board 1;friend 1 20 0 0 0 0 0 0 0 0 1;service 10", "hang(0)"));
        loans.addAll(times(12, "borrow(0, 0, 1)"));
        refused(32, loans, "borrow(0, 0, 1) => -2", "borrow(0, 9, 1) => -2", "borrow(0, 9, 2) => -3");
        refused(36, List.of("load board 1" + ";card 1 1".repeat(12), "buy(3, 4)", "setTurn(true)"), "addCard(1, 2, 3) => -2");
        refused(40, List.of("load board 1;card 5 1;service 5 6;service 1 2 3 4 5 6 7 8;service 9", "hang(0)"), "addHymn(1, 9) => -2");
        List<String> services = List.of("load board 1;card 1 1" + ";service 1".repeat(16), "hang(2)", "addHymn(15, 3)");
        refused(41, services, "addService(7) => -2");
    }

    private static void nothingToTakeBack() {
        String sentence = "NONE, and nothing changes, if there is none";
        changesNothing(47, sentence, NOTHING, true, "undo() => -1");
        changesNothing(47, sentence, List.of(), true, "undo() => -1");
        changesNothing(47, sentence, with(ALL, "restoreSnapshot(0)"), true, "undo() => -1");
        changesNothing(47, sentence, List.of("load board 2;card 1 1;service 1", "hang(0)", "undo()", "write()"), true, "undo() => -1");
        String unsaved = "NONE, and nothing changes, if nothing was saved there";
        changesNothing(49, unsaved, NOTHING, true, "restoreSnapshot(0) => -1", "restoreSnapshot(1) => -1");
        changesNothing(49, unsaved, List.of("load board 2;card 1 1;service 1", "hang(0)", "saveSnapshot(0)", "lose(0, 1)", "text x"),
            true, "restoreSnapshot(1) => -1");
    }

    /** The results of load() differ, and the buffer is empty: so both are emptied ahead of it. */
    private static void errorsOfLoad() {
        String name = Edges.name(3, "and then nothing but the buffer and the results of loadError() and loadStatement() changes");
        String[] errors = {"load", "load board 7", "load board 1;card 1 1;service 5;x", "load board 1 1 1 1",
            "load board 1 turn split;card 7 7;friend 1 1 1 1 1 1 1 1 1 1 1;service (1 2 3)3"};
        for (String error : errors) {
            List<String> emptied = with(ALL.subList(0, ALL.size() - 1), "load x");
            same(name + ": " + error, emptied, List.of(error), true, false);
            same(name + ": " + error, with(NOTHING, "load x"), List.of(error), true, false);
        }
    }

    private static void whatIsTold() {
        String[] calls = {"size(14) => 6", "card(0, 2) => 1", "way(0, 9) => 2", "lends(0, 9) => 18", "loan(1, 3) => 2", "rows(1) => 1",
            "hymns(1) => 3", "hymn(1, 2) => 2", "loadError() => 0", "loadStatement() => -1"};
        int[] promises = {6, 7, 8, 9, 10, 11, 12, 13, 4, 5};
        for (int index = 0; index < calls.length; index++) {
            changesNothing(promises[index], UNCHANGED, ALL, true, calls[index]);
        }
        changesNothing(14, UNCHANGED, ALL, true, "place(0, 0, 2, 0) => -1");
        changesNothing(18, UNCHANGED, ALL, true, "canShow(999) => false", "canShow(222) => true");
        changesNothing(20, UNCHANGED, ALL, true, "would(0, 0) => 3", "would(1, 6) => 2", "would(2, 1) => 2", "would(1, 4) => 1");
        changesNothing(21, UNCHANGED, ALL, true, "outAt(2) => 0", "outAt(0) => -1", "outAt(1) => 100");
        changesNothing(22, UNCHANGED, ALL, true, "missing(2) => 2", "missing(1) => 2");
        changesNothing(23, UNCHANGED, ALL, true, "bestBuy(0) => -1", "bestBuy(2) => 5");
        changesNothing(24, UNCHANGED, ALL, true, "firstOut() => 1");
        changesNothing(25, UNCHANGED, ALL, true, "workFrom(0, 1) => 5", "workFrom(1, 1) => 0");
        changesNothing(26, UNCHANGED, ALL, true, "easiest() => 0");
        changesNothing(27, UNCHANGED, ALL, true, "wouldFall() => 1");
        changesNothing(28, UNCHANGED, ALL, true, "lenders(9) => 3");
        changesNothing(43, UNCHANGED, ALL, true, "turned() => 0.25");
    }

    private static void whatIsWritten() {
        changesNothing(44, "Writes the boards to the output, in place of what it had", with(ALL, "writeService(0)"), false,
            "write() => 11");
        changesNothing(45, "Writes a service to the output, in place of what it had", ALL, false, "writeService(1) => 7");
        changesNothing(2, "Returns the new length of the buffer", ALL, true, "append(0) => 25");
    }

    /** Each action, and that it is taken back: all is as ahead of it. */
    private static void whatIsTakenBack() {
        takenBack(29, "Hangs a service (section 3; an action)", "hang(0)", "hang(1)", "hang(2)");
        takenBack(30, "Holds the service that was hung last (an action; again and again, too)", "hold()");
        takenBack(31, "Clears the boards (an action)", "clear()");
        takenBack(32, "Borrows cards (an action)", "borrow(0, 9, 1)", "borrow(0, 1, 2)");
        takenBack(33, "Ends a loan (an action)", "giveBack(0)", "giveBack(1)");
        takenBack(34, "Buys own cards of a sort that there is (an action)", "buy(0, 5)", "buy(1, 55)");
        takenBack(35, "Loses own cards (an action)", "lose(0, 1)", "lose(1, 1)", "lose(1, 5)");
        takenBack(36, "Adds a sort of own cards (an action)", "addCard(3, 4, 5)", "addCard(0, -1, 0)");
        takenBack(37, "Turns TURN on or off (an action)", "setTurn(false)", "setTurn(true)");
        takenBack(38, "Turns SPLIT on or off (an action)", "setSplit(false)", "setSplit(true)");
        takenBack(39, "Sets a hymn of a service (an action)", "setHymn(0, 0, 999)", "setHymn(1, 2, 1)");
        takenBack(40, "Adds a hymn at the end of a service (an action)", "addHymn(0, 7)", "addHymn(2, 999)");
        takenBack(41, "Adds a service of one hymn (an action)", "addService(7)");
    }

    private static void takenBack(int promise, String sentence, String... actions) {
        String name = Edges.name(promise, sentence);
        for (String action : actions) {
            Script script = new Script();
            ALL.forEach(script::answer);
            script.answer(action);
            Script.due(name + ": " + action + " counts", script.answer("size(14)"), "7");
            same(name + ": " + action, ALL, List.of(action, "undo()"), true, true);
            same(name + ": " + action, ALL, List.of(action, "clear()", "undo()", "undo()"), true, true);
        }
    }

    private static List<String> with(List<String> calls, String more) {
        List<String> all = new ArrayList<>(calls);
        all.add(more);
        return all;
    }

    private static List<String> times(int times, String call) {
        List<String> calls = new ArrayList<>();
        for (int time = 0; time < times; time++) {
            calls.add(call);
        }
        return calls;
    }
}
