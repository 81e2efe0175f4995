import java.util.ArrayDeque;
import java.util.ArrayList;
import java.util.Deque;
import java.util.List;
import java.util.Map;
import java.util.NoSuchElementException;
import java.util.TreeMap;
import java.util.regex.Matcher;
import java.util.regex.Pattern;

/**
 * The document written down a second time, slowly and by other means: cards that can be shown together are found by
 * looking at all sets of digits (Hall's theorem), states are copied deeply, texts are read by regular expressions.
 */
final class Model {
    private static final int NONE = -1;
    private static final int FULL = -2;
    private static final int WRONG = -3;

    private static final class World {
        List<Integer> boards = new ArrayList<>();
        boolean turn;
        boolean split;
        List<int[]> own = new ArrayList<>();
        List<int[]> friends = new ArrayList<>();
        List<int[]> loans = new ArrayList<>();
        List<List<Integer>> services = new ArrayList<>();
        int service = NONE;
        /** By 100 * board + 10 * row + column: digit, card, way. */
        TreeMap<Integer, int[]> places = new TreeMap<>();
        /** By 10 * board + row. */
        TreeMap<Integer, Integer> hymns = new TreeMap<>();
        int held;
        int work;
        int hung;
        int out;

        World copy() {
            World copy = new World();
            copy.boards.addAll(boards);
            copy.turn = turn;
            copy.split = split;
            own.forEach(card -> copy.own.add(card.clone()));
            friends.forEach(friend -> copy.friends.add(friend.clone()));
            loans.forEach(loan -> copy.loans.add(loan.clone()));
            services.forEach(list -> copy.services.add(new ArrayList<>(list)));
            copy.service = service;
            places.forEach((place, what) -> copy.places.put(place, what.clone()));
            copy.hymns.putAll(hymns);
            copy.held = held;
            copy.work = work;
            copy.hung = hung;
            copy.out = out;
            return copy;
        }

        /** The number of each card with what there is of it. */
        TreeMap<Integer, Integer> counts() {
            TreeMap<Integer, Integer> counts = new TreeMap<>();
            for (int card = 0; card < own.size(); card++) {
                counts.put(card, own.get(card)[2]);
            }
            for (int number = 100; number < 100 + 10 * friends.size(); number++) {
                counts.put(number, 0);
            }
            for (int[] loan : loans) {
                counts.merge(100 + 10 * loan[0] + loan[1], loan[2], Integer::sum);
            }
            return counts;
        }

        int front(int card) {
            return card >= 100 ? card % 10 : own.get(card)[0];
        }

        int back(int card) {
            return card >= 100 ? NONE : own.get(card)[1];
        }

        int way(int card, int digit) {
            int turnedDigit = digit == 6 ? 9 : digit == 9 ? 6 : -5;
            int[] sides = {front(card), back(card)};
            for (int way = 0; way < 4; way++) {
                if (way < 2 && sides[way] == digit) {
                    return way;
                }
                if (way >= 2 && turn && sides[way - 2] == turnedDigit) {
                    return way;
                }
            }
            return NONE;
        }

        int hangs(int card) {
            return (int) places.values().stream().filter(what -> what[1] == card).count();
        }

        /** The most digits that are lacking in a set of digits: so many can't be shown. */
        int lack(List<Integer> digits, Map<Integer, Integer> counts) {
            int[] wanted = new int[10];
            digits.forEach(digit -> wanted[digit]++);
            List<int[]> offers = new ArrayList<>();
            counts.forEach((card, count) -> {
                int mask = 0;
                for (int digit = 0; digit < 10; digit++) {
                    mask |= way(card, digit) >= 0 && wanted[digit] > 0 ? 1 << digit : 0;
                }
                if (mask != 0 && count > 0) {
                    offers.add(new int[] {mask, count});
                }
            });
            int used = 0;
            for (int digit = 0; digit < 10; digit++) {
                used |= wanted[digit] > 0 ? 1 << digit : 0;
            }
            int most = 0;
            for (int set = used; set > 0; set = (set - 1) & used) {
                int lack = 0;
                for (int digit = 0; digit < 10; digit++) {
                    lack += (set >> digit & 1) * wanted[digit];
                }
                for (int[] offer : offers) {
                    lack -= (offer[0] & set) != 0 ? offer[1] : 0;
                }
                most = Math.max(most, lack);
            }
            return most;
        }

        /** The hymns that are to be shown, by 10 * board + row. */
        TreeMap<Integer, Integer> wanted(int service) {
            TreeMap<Integer, Integer> wanted = new TreeMap<>();
            List<Integer> list = services.get(service);
            Deque<Integer> goesOn = new ArrayDeque<>(list);
            for (int board = 0; board < boards.size(); board++) {
                Deque<Integer> from = split ? goesOn : new ArrayDeque<>(list);
                for (int row = 0; row < boards.get(board) && !from.isEmpty(); row++) {
                    wanted.put(10 * board + row, from.removeFirst());
                }
            }
            return wanted;
        }

        /** Returns the work. */
        int hang(int service, Map<Integer, Integer> counts) {
            TreeMap<Integer, int[]> before = new TreeMap<>(places);
            places.clear();
            hymns.clear();
            List<Integer> digits = new ArrayList<>();
            for (Map.Entry<Integer, Integer> entry : wanted(service).entrySet()) {
                List<Integer> more = new ArrayList<>(digits);
                more.addAll(digitsOf(entry.getValue()));
                if (lack(more, counts) == 0) {
                    digits = more;
                    hymns.put(entry.getKey(), entry.getValue());
                    hung++;
                } else {
                    out++;
                }
            }
            TreeMap<Integer, Integer> left = new TreeMap<>(counts);
            hymns.forEach((row, hymn) -> {
                List<Integer> itsDigits = digitsOf(hymn);
                for (int index = 0; index < itsDigits.size(); index++) {
                    places.put(10 * row + 3 - itsDigits.size() + index, new int[] {itsDigits.get(index), NONE, NONE});
                }
            });
            for (int[] what : places.values()) {
                digits.remove(0);
                give(what, digits, left);
            }
            int itsWork = workBetween(before, places);
            work += itsWork;
            this.service = service;
            return itsWork;
        }

        private void give(int[] what, List<Integer> behind, TreeMap<Integer, Integer> left) {
            for (int card : left.keySet()) {
                if (left.get(card) > 0 && way(card, what[0]) != NONE) {
                    TreeMap<Integer, Integer> less = new TreeMap<>(left);
                    less.merge(card, -1, Integer::sum);
                    if (lack(behind, less) == 0) {
                        left.merge(card, -1, Integer::sum);
                        what[1] = card;
                        what[2] = way(card, what[0]);
                        return;
                    }
                }
            }
            throw new IllegalStateException("no card for a place");
        }

        int takeTooManyDown() {
            int down = 0;
            TreeMap<Integer, Integer> counts = counts();
            for (int card : counts.keySet()) {
                for (int place : new ArrayList<>(places.descendingKeySet())) {
                    if (hangs(card) > counts.get(card) && places.get(place)[1] == card) {
                        places.remove(place);
                        down++;
                    }
                }
            }
            return down;
        }
    }

    private static final class Refused extends RuntimeException {
        private static final long serialVersionUID = 1;
        final int kind;
        final int position;

        Refused(int kind, int position) {
            this.kind = kind;
            this.position = position;
        }
    }

    private World now = new World();
    private final Deque<World> before = new ArrayDeque<>();
    private final World[] snapshots = new World[2];
    private String input = "";
    private String output = "";
    private int loadError;
    private int loadStatement = NONE;

    Model() {
        now.boards.add(4);
    }

    private static List<Integer> digitsOf(int hymn) {
        List<Integer> digits = new ArrayList<>();
        for (char sign : String.valueOf(hymn).toCharArray()) {
            digits.add(sign - '0');
        }
        return digits;
    }

    private static int workBetween(Map<Integer, int[]> before, Map<Integer, int[]> after) {
        int work = 0;
        for (int place = 0; place < 300; place++) {
            int[] one = before.get(place);
            int[] other = after.get(place);
            if (one != null && (other == null || other[0] != one[0])) {
                work++;
            }
            if (other != null && (one == null || other[0] != one[0])) {
                work++;
            }
        }
        return work;
    }

    private static void exists(boolean yes) {
        if (!yes) {
            throw new IndexOutOfBoundsException();
        }
    }

    private static void inRange(int value, int low, int high) {
        if (value < low || value > high) {
            throw new IllegalArgumentException();
        }
    }

    private void existsService(int service) {
        exists(service >= 0 && service < now.services.size());
    }

    private void existsCard(int card) {
        exists(now.counts().containsKey(card));
    }

    private void existsRow(int board, int row) {
        exists(board >= 0 && board < now.boards.size() && row >= 0 && row < now.boards.get(board));
    }

    private void action() {
        before.addLast(now.copy());
        if (before.size() > 8) {
            before.removeFirst();
        }
    }

    /** Answers a call that is told by the name of the method. */
    Object answer(String name, long[] given) {
        int[] a = new int[3 + given.length];
        for (int index = 0; index < given.length; index++) {
            a[index] = (int) given[index];
        }
        switch (name) {
            case "append": return append(given[0]);
            case "load": return load();
            case "loadError": return loadError;
            case "loadStatement": return loadStatement;
            case "size": return size(a[0]);
            case "card": return card(a[0], a[1]);
            case "way": return way(a[0], a[1]);
            case "lends": return lends(a[0], a[1]);
            case "loan": return loan(a[0], a[1]);
            case "rows": return rows(a[0]);
            case "hymns": return hymns(a[0]);
            case "hymn": return hymn(a[0], a[1]);
            case "place": return place(a[0], a[1], a[2], a[3]);
            case "hung": return hung(a[0], a[1]);
            case "holes": return holes();
            case "free": return free(a[0]);
            case "canShow": return canShow(a[0]);
            case "most": return most(a[0]);
            case "would": return would(a[0], a[1]);
            case "outAt": return outAt(a[0]);
            case "missing": return missing(a[0]);
            case "bestBuy": return bestBuy(a[0]);
            case "firstOut": return firstOut();
            case "workFrom": return workFrom(a[0], a[1]);
            case "easiest": return easiest();
            case "wouldFall": return wouldFall();
            case "lenders": return lenders(a[0]);
            case "luck": return now.hung + now.out == 0 ? 0.0 : 1.0 * now.hung / (now.hung + now.out);
            case "turned": return turned();
            case "write": return write();
            case "writeService": return writeService(a[0]);
            case "outputByte": return a[0] >= 0 && a[0] < output.length() ? (int) output.charAt(a[0]) : NONE;
            case "undo": return undo();
            case "saveSnapshot": return saveSnapshot(a[0]);
            case "restoreSnapshot": return restoreSnapshot(a[0]);
            default: return act(name, a);
        }
    }

    private Object act(String name, int[] a) {
        switch (name) {
            case "hang": return hang(a[0]);
            case "hold": return hold();
            case "clear": return clear();
            case "borrow": return borrow(a[0], a[1], a[2]);
            case "giveBack": return giveBack(a[0]);
            case "buy": return buy(a[0], a[1]);
            case "lose": return lose(a[0], a[1]);
            case "addCard": return addCard(a[0], a[1], a[2]);
            case "setTurn": return setTurn(a[0] == 1);
            case "setSplit": return setSplit(a[0] == 1);
            case "setHymn": return setHymn(a[0], a[1], a[2]);
            case "addHymn": return addHymn(a[0], a[1]);
            case "addService": return addService(a[0]);
            default: throw new NoSuchElementException(name);
        }
    }

    private int append(long bytes) {
        StringBuilder more = new StringBuilder();
        for (int index = 7; index >= 0; index--) {
            char sign = (char) (bytes >> 8 * index & 255);
            if (sign != 0) {
                more.append(sign);
            }
        }
        if (input.length() + more.length() > 500) {
            return FULL;
        }
        input += more;
        return input.length();
    }

    // ---- the description: statement by statement, token by token ----

    private static final Pattern TOKEN = Pattern.compile(" *([a-z]+|[0-9]+|[^ ]|$)", Pattern.DOTALL);
    private List<String> tokens;
    private List<Integer> positions;
    private int next;
    private int semicolons;

    private int load() {
        tokens = new ArrayList<>();
        positions = new ArrayList<>();
        Matcher matcher = TOKEN.matcher(input);
        while (matcher.find()) {
            tokens.add(matcher.group(1));
            positions.add(matcher.start(1));
        }
        tokens.add("");
        positions.add(input.length());
        input = "";
        next = 0;
        semicolons = 0;
        try {
            World world = new World();
            readBoards(world);
            while (!peek().isEmpty()) {
                take(";");
                semicolons++;
                readStatement(world);
            }
            now = world;
            before.clear();
            loadError = 0;
            loadStatement = NONE;
            return now.services.size();
        } catch (Refused refused) {
            loadError = refused.kind;
            loadStatement = semicolons;
            return -100 - refused.position;
        }
    }

    private String peek() {
        return tokens.get(next);
    }

    private Refused refused(int kind) {
        return new Refused(kind, positions.get(next));
    }

    private void take(String token) {
        if (!peek().equals(token)) {
            throw refused(1);
        }
        next++;
    }

    private boolean isNumber() {
        return peek().matches("[0-9]+");
    }

    private int number(int low, int high) {
        if (!isNumber()) {
            throw refused(1);
        }
        String digits = peek().replaceFirst("^0+(?=.)", "");
        if (digits.length() > 6 || Integer.parseInt(digits) < low || Integer.parseInt(digits) > high) {
            throw refused(2);
        }
        next++;
        return Integer.parseInt(digits);
    }

    private void readBoards(World world) {
        take("board");
        do {
            int rows = number(1, 6);
            if (world.boards.size() == 3) {
                next--;
                throw refused(3);
            }
            world.boards.add(rows);
        } while (isNumber());
        if (peek().equals("turn")) {
            take("turn");
            world.turn = true;
        }
        if (peek().equals("split")) {
            take("split");
            world.split = true;
        }
    }

    private void readStatement(World world) {
        switch (peek()) {
            case "card" -> {
                notTooMany(world.own.size(), 12);
                int front = number(0, 9);
                int back = NONE;
                if (peek().equals("back")) {
                    next++;
                    back = number(0, 9);
                }
                world.own.add(new int[] {front, back, number(0, 60)});
            }
            case "friend" -> {
                notTooMany(world.friends.size(), 3);
                int[] friend = new int[11];
                friend[10] = number(1, 9);
                for (int digit = 0; digit < 10; digit++) {
                    friend[digit] = number(0, 20);
                }
                world.friends.add(friend);
            }
            case "service" -> {
                notTooMany(world.services.size(), 16);
                world.services.add(readParts(0, 0));
            }
            default -> throw refused(1);
        }
    }

    private void notTooMany(int many, int most) {
        if (many == most) {
            throw refused(3);
        }
        next++;
    }

    private List<Integer> readParts(int open, int hymnsAhead) {
        List<Integer> parts = new ArrayList<>();
        do {
            if (peek().equals("(")) {
                if (open == 3) {
                    throw refused(3);
                }
                next++;
                List<Integer> inside = readParts(open + 1, hymnsAhead + parts.size());
                take(")");
                int times = number(1, 8);
                if (hymnsAhead + parts.size() + inside.size() * times > 8) {
                    next--;
                    throw refused(4);
                }
                for (int time = 0; time < times; time++) {
                    parts.addAll(inside);
                }
            } else {
                int hymn = number(1, 999);
                if (hymnsAhead + parts.size() + 1 > 8) {
                    next--;
                    throw refused(4);
                }
                parts.add(hymn);
            }
        } while (isNumber() || peek().equals("("));
        return parts;
    }

    // ---- queries ----

    private int size(int what) {
        inRange(what, 0, 14);
        int[] answers = {now.boards.size(), now.boards.stream().mapToInt(rows -> rows).sum(), now.turn ? 1 : 0,
            now.split ? 1 : 0, now.own.size(), now.friends.size(), now.services.size(), now.loans.size(), now.service,
            now.places.size(), now.held, now.work, now.hung, now.out, before.size()};
        return answers[what];
    }

    private int card(int card, int what) {
        existsCard(card);
        inRange(what, 0, 3);
        return new int[] {now.front(card), now.back(card), now.counts().get(card), now.hangs(card)}[what];
    }

    private int way(int card, int digit) {
        existsCard(card);
        inRange(digit, 0, 9);
        return now.way(card, digit);
    }

    private int lends(int friend, int digit) {
        exists(friend >= 0 && friend < now.friends.size());
        inRange(digit, 0, 9);
        int lends = now.friends.get(friend)[digit];
        for (int[] loan : now.loans) {
            lends -= loan[0] == friend && loan[1] == digit ? loan[2] : 0;
        }
        return lends;
    }

    private int loan(int loan, int what) {
        exists(loan >= 0 && loan < now.loans.size());
        inRange(what, 0, 3);
        return now.loans.get(loan)[what];
    }

    private int rows(int board) {
        exists(board >= 0 && board < now.boards.size());
        return now.boards.get(board);
    }

    private int hymns(int service) {
        existsService(service);
        return now.services.get(service).size();
    }

    private int hymn(int service, int index) {
        existsService(service);
        List<Integer> list = now.services.get(service);
        return index >= 0 && index < list.size() ? list.get(index) : NONE;
    }

    private int place(int board, int row, int column, int what) {
        existsRow(board, row);
        inRange(column, 0, 2);
        inRange(what, 0, 2);
        int[] there = now.places.get(100 * board + 10 * row + column);
        return there == null ? NONE : there[what];
    }

    private int hung(int board, int row) {
        existsRow(board, row);
        return now.hymns.getOrDefault(10 * board + row, NONE);
    }

    private int holes() {
        int holes = 0;
        for (Map.Entry<Integer, Integer> entry : now.hymns.entrySet()) {
            int from = 10 * entry.getKey();
            holes += now.places.subMap(from, from + 3).size() < digitsOf(entry.getValue()).size() ? 1 : 0;
        }
        return holes;
    }

    private TreeMap<Integer, Integer> freeCards() {
        TreeMap<Integer, Integer> cards = now.counts();
        now.places.values().forEach(what -> cards.merge(what[1], -1, Integer::sum));
        return cards;
    }

    private int countOf(Map<Integer, Integer> cards, int digit) {
        inRange(digit, 0, 9);
        int sum = 0;
        for (Map.Entry<Integer, Integer> entry : cards.entrySet()) {
            sum += now.way(entry.getKey(), digit) == NONE ? 0 : entry.getValue();
        }
        return sum;
    }

    private int free(int digit) {
        return countOf(freeCards(), digit);
    }

    private int most(int digit) {
        return countOf(now.counts(), digit);
    }

    private boolean canShow(int hymn) {
        inRange(hymn, 1, 999);
        return now.lack(digitsOf(hymn), freeCards()) == 0;
    }

    private World hungNow(int service) {
        World then = now.copy();
        then.hang(service, then.counts());
        return then;
    }

    private int would(int service, int what) {
        existsService(service);
        inRange(what, 0, 6);
        World then = hungNow(service);
        int turned = 0;
        int backs = 0;
        int borrowed = 0;
        for (int[] there : then.places.values()) {
            turned += there[2] >= 2 ? 1 : 0;
            backs += there[2] % 2;
            borrowed += there[1] >= 100 ? 1 : 0;
        }
        return new int[] {then.hung - now.hung, then.out - now.out, then.work - now.work, then.places.size(), turned,
            backs, borrowed}[what];
    }

    private int outAt(int service) {
        existsService(service);
        World then = hungNow(service);
        for (int row : then.wanted(service).keySet()) {
            if (!then.hymns.containsKey(row)) {
                return row / 10 * 100 + row % 10;
            }
        }
        return NONE;
    }

    private int missing(int service) {
        existsService(service);
        List<Integer> digits = new ArrayList<>();
        now.wanted(service).values().forEach(hymn -> digits.addAll(digitsOf(hymn)));
        return now.lack(digits, now.counts());
    }

    private int bestBuy(int service) {
        existsService(service);
        int best = NONE;
        int most = hungNow(service).hung;
        for (int digit = 0; digit < 10; digit++) {
            World then = now.copy();
            then.own.add(new int[] {digit, NONE, 1});
            then.hang(service, then.counts());
            if (then.hung > most) {
                best = digit;
                most = then.hung;
            }
        }
        return best;
    }

    private int firstOut() {
        for (int service = 0; service < now.services.size(); service++) {
            if (hungNow(service).out > now.out) {
                return service;
            }
        }
        return NONE;
    }

    private int workFrom(int first, int second) {
        existsService(first);
        existsService(second);
        World then = hungNow(first);
        return then.hang(second, then.counts());
    }

    private int easiest() {
        int best = NONE;
        int least = 1000;
        for (int service = 0; service < now.services.size(); service++) {
            int work = hungNow(service).work - now.work;
            if (work < least) {
                best = service;
                least = work;
            }
        }
        return best;
    }

    private int wouldFall() {
        if (now.service == NONE) {
            return 0;
        }
        World then = now.copy();
        return passService(then);
    }

    private int lenders(int digit) {
        inRange(digit, 0, 9);
        int sum = 0;
        for (int friend = now.friends.size() - 1; friend >= 0; friend--) {
            sum = 2 * sum + (lends(friend, digit) > 0 ? 1 : 0);
        }
        return sum;
    }

    private float turned() {
        long many = now.places.values().stream().filter(there -> there[2] >= 2).count();
        return now.places.isEmpty() ? 0.0f : (float) many / now.places.size();
    }

    // ---- actions ----

    private int hang(int service) {
        existsService(service);
        action();
        return now.hang(service, now.counts());
    }

    private static int passService(World world) {
        world.loans.forEach(loan -> loan[3]--);
        world.loans.removeIf(loan -> loan[3] == 0);
        return world.takeTooManyDown();
    }

    private int hold() {
        if (now.service == NONE) {
            return WRONG;
        }
        action();
        now.held++;
        return passService(now);
    }

    private int clear() {
        action();
        int cards = now.places.size();
        now.places.clear();
        now.hymns.clear();
        now.service = NONE;
        return cards;
    }

    private int borrow(int friend, int digit, int many) {
        int lends = lends(friend, digit);
        inRange(many, 1, 60);
        if (many > lends) {
            return WRONG;
        }
        if (now.loans.size() == 12) {
            return FULL;
        }
        action();
        now.loans.add(new int[] {friend, digit, many, now.friends.get(friend)[10]});
        return now.loans.size() - 1;
    }

    private int giveBack(int loan) {
        exists(loan >= 0 && loan < now.loans.size());
        action();
        now.loans.remove(loan);
        return now.takeTooManyDown();
    }

    private int buy(int card, int many) {
        exists(card >= 0 && card < now.own.size());
        inRange(many, 1, 60);
        if (now.own.get(card)[2] + many > 60) {
            return FULL;
        }
        action();
        return now.own.get(card)[2] += many;
    }

    private int lose(int card, int many) {
        exists(card >= 0 && card < now.own.size());
        inRange(many, 1, 60);
        if (now.own.get(card)[2] < many) {
            return WRONG;
        }
        action();
        now.own.get(card)[2] -= many;
        return now.takeTooManyDown();
    }

    private int addCard(int front, int back, int count) {
        inRange(front, 0, 9);
        inRange(back, -1, 9);
        inRange(count, 0, 60);
        if (now.own.size() == 12) {
            return FULL;
        }
        action();
        now.own.add(new int[] {front, back, count});
        return now.own.size() - 1;
    }

    private boolean setTurn(boolean on) {
        action();
        boolean was = now.turn;
        now.turn = on;
        return was;
    }

    private boolean setSplit(boolean on) {
        action();
        boolean was = now.split;
        now.split = on;
        return was;
    }

    private int setHymn(int service, int index, int hymn) {
        existsService(service);
        inRange(hymn, 1, 999);
        if (index < 0 || index >= now.services.get(service).size()) {
            return WRONG;
        }
        action();
        return now.services.get(service).set(index, hymn);
    }

    private int addHymn(int service, int hymn) {
        existsService(service);
        inRange(hymn, 1, 999);
        if (now.services.get(service).size() == 8) {
            return FULL;
        }
        action();
        now.services.get(service).add(hymn);
        return now.services.get(service).size();
    }

    private int addService(int hymn) {
        inRange(hymn, 1, 999);
        if (now.services.size() == 16) {
            return FULL;
        }
        action();
        now.services.add(new ArrayList<>(List.of(hymn)));
        return now.services.size() - 1;
    }

    private int write() {
        List<String> boards = new ArrayList<>();
        for (int board = 0; board < now.boards.size(); board++) {
            List<String> rows = new ArrayList<>();
            for (int row = 0; row < now.boards.get(board); row++) {
                StringBuilder text = new StringBuilder();
                for (int column = 0; column < 3; column++) {
                    int digit = place(board, row, column, 0);
                    text.append(digit == NONE ? "." : String.valueOf(digit));
                }
                rows.add(text.toString());
            }
            boards.add(String.join("/", rows));
        }
        output = String.join(" ", boards);
        return output.length();
    }

    private int writeService(int service) {
        existsService(service);
        List<String> words = new ArrayList<>();
        now.services.get(service).forEach(hymn -> words.add(String.valueOf(hymn)));
        output = String.join(" ", words);
        return output.length();
    }

    private int undo() {
        if (before.isEmpty()) {
            return NONE;
        }
        now = before.removeLast();
        return before.size();
    }

    private int saveSnapshot(int slot) {
        inRange(slot, 0, 1);
        snapshots[slot] = now.copy();
        return now.held;
    }

    private int restoreSnapshot(int slot) {
        inRange(slot, 0, 1);
        if (snapshots[slot] == null) {
            return NONE;
        }
        now = snapshots[slot].copy();
        before.clear();
        return now.held;
    }

    /** What there is now, for the choice of arguments that are mostly fine. */
    int many(int what) {
        return size(what);
    }
}
