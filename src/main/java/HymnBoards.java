import java.util.Arrays;

/** Boards in a church that show the numbers of hymns by cards with digits, of which there are too few. */
public final class HymnBoards {
    public static final int NONE = -1;
    public static final int FULL = -2;
    public static final int WRONG = -3;

    private static final int DIGITS = 10;
    private static final int MOST_BOARDS = 3;
    private static final int MOST_ROWS = 6;
    private static final int COLUMNS = 3;
    private static final int ALL_ROWS = MOST_BOARDS * MOST_ROWS;
    private static final int PLACES = ALL_ROWS * COLUMNS;
    private static final int MOST_OWN = 12;
    private static final int MOST_FRIENDS = 3;
    private static final int KINDS_TO_LEND = MOST_FRIENDS * DIGITS;
    private static final int SORTS = MOST_OWN + KINDS_TO_LEND;
    private static final int FIRST_BORROWED = 100;
    private static final int HIGHEST_COUNT = 60;
    private static final int HIGHEST_TO_LEND = 20;
    private static final int HIGHEST_TERM = 9;
    private static final int MOST_LOANS = 12;
    private static final int MOST_SERVICES = 16;
    private static final int MOST_HYMNS = 8;
    private static final int HIGHEST_HYMN = 999;
    private static final int MOST_REPEATS = 8;
    private static final int MOST_OPEN_BRACKETS = 3;
    private static final int MOST_INPUT = 500;
    private static final int MOST_OUTPUT = 80;
    private static final int MOST_TAKEN_BACK = 8;
    private static final int SLOTS = 2;

    private final State now = new State();
    private final State fresh = new State();
    private final Reader reader = new Reader();
    private final History history = new History();
    private final State[] snapshots = new State[SLOTS];
    private final boolean[] saved = new boolean[SLOTS];
    private final Planner planner = new Planner();
    private final Hanging plan = new Hanging();
    private final Hanging earlierPlan = new Hanging();
    private final Output output = new Output();

    public HymnBoards() {
        for (int slot = 0; slot < SLOTS; slot++) {
            snapshots[slot] = new State();
        }
        now.startAnew();
        now.boards = 1;
        now.rowsOf[0] = 4;
    }

    // ---- the description ----

    public int append(long bytes) {
        return reader.takeBytes(bytes);
    }

    public int load() {
        boolean fine = reader.readInto(fresh);
        reader.length = 0;
        if (!fine) {
            return -100 - reader.errorAt;
        }
        now.copyFrom(fresh);
        history.forget();
        return now.services.many;
    }

    public int loadError() {
        return reader.error;
    }

    public int loadStatement() {
        return reader.error == 0 ? NONE : reader.statement;
    }

    // ---- what there is ----

    public int size(int what) throws IllegalArgumentException {
        switch (what) {
            case 0: return now.boards;
            case 1: return now.rowsAhead(now.boards);
            case 2: return now.stock.turn ? 1 : 0;
            case 3: return now.split ? 1 : 0;
            case 4: return now.stock.own;
            case 5: return now.stock.friends;
            case 6: return now.services.many;
            case 7: return now.stock.loans;
            case 8: return now.hanging.service;
            case 9: return now.hanging.countCards();
            case 10: return now.held;
            case 11: return now.work;
            case 12: return now.rowsHung;
            case 13: return now.rowsOut;
            case 14: return history.kept;
            default: throw new IllegalArgumentException("what");
        }
    }

    public int card(int card, int what) throws IndexOutOfBoundsException, IllegalArgumentException {
        int sort = sortOf(card);
        switch (what) {
            case 0: return now.stock.frontOf(sort);
            case 1: return now.stock.backOf(sort);
            case 2: return now.stock.count[sort];
            case 3: return now.hanging.hangs[sort];
            default: throw new IllegalArgumentException("what");
        }
    }

    public int way(int card, int digit) throws IndexOutOfBoundsException, IllegalArgumentException {
        int sort = sortOf(card);
        needDigit(digit);
        return now.stock.wayOf(sort, digit);
    }

    public int lends(int friend, int digit) throws IndexOutOfBoundsException, IllegalArgumentException {
        needFriend(friend);
        needDigit(digit);
        return now.stock.toLend[friend * DIGITS + digit];
    }

    public int loan(int loan, int what) throws IndexOutOfBoundsException, IllegalArgumentException {
        needIndex(within(loan, 0, now.stock.loans - 1));
        switch (what) {
            case 0: return now.stock.loanKind[loan] / DIGITS;
            case 1: return now.stock.loanKind[loan] % DIGITS;
            case 2: return now.stock.loanMany[loan];
            case 3: return now.stock.loanLeft[loan];
            default: throw new IllegalArgumentException("what");
        }
    }

    public int rows(int board) throws IndexOutOfBoundsException {
        needIndex(within(board, 0, now.boards - 1));
        return now.rowsOf[board];
    }

    public int hymns(int service) throws IndexOutOfBoundsException {
        needService(service);
        return now.services.length[service];
    }

    public int hymn(int service, int index) throws IndexOutOfBoundsException {
        needService(service);
        return now.services.hymnAt(service, index);
    }

    // ---- what hangs ----

    public int place(int board, int row, int column, int what)
            throws IndexOutOfBoundsException, IllegalArgumentException {
        needRow(board, row);
        needArgument(within(column, 0, COLUMNS - 1));
        int place = (board * MOST_ROWS + row) * COLUMNS + column;
        switch (what) {
            case 0: return now.hanging.digit[place];
            case 1: return numberOf(now.hanging.sort[place]);
            case 2: return now.hanging.way[place];
            default: throw new IllegalArgumentException("what");
        }
    }

    public int hung(int board, int row) throws IndexOutOfBoundsException {
        needRow(board, row);
        return now.hanging.hymn[board * MOST_ROWS + row];
    }

    public int holes() {
        return now.hanging.countHoles();
    }

    public int free(int digit) throws IllegalArgumentException {
        needDigit(digit);
        int cards = 0;
        for (int sort = 0; sort < SORTS; sort++) {
            if (now.stock.showsDigit(sort, digit)) {
                cards += now.stock.count[sort] - now.hanging.hangs[sort];
            }
        }
        return cards;
    }

    public boolean canShow(int hymn) throws IllegalArgumentException {
        needHymn(hymn);
        return planner.couldShow(now, hymn);
    }

    public int most(int digit) throws IllegalArgumentException {
        needDigit(digit);
        int cards = 0;
        for (int sort = 0; sort < SORTS; sort++) {
            if (now.stock.showsDigit(sort, digit)) {
                cards += now.stock.count[sort];
            }
        }
        return cards;
    }

    // ---- what would be ----

    public int would(int service, int what) throws IndexOutOfBoundsException, IllegalArgumentException {
        needService(service);
        needArgument(within(what, 0, 6));
        planner.chooseRows(now, service, NONE, plan);
        if (what >= 4) {
            planner.chooseCards(now.stock, plan);
        }
        switch (what) {
            case 0: return planner.rowsHung;
            case 1: return planner.rowsOut;
            case 2: return now.hanging.workTo(plan);
            case 3: return plan.countCards();
            case 4: return plan.countTurned();
            case 5: return plan.countBacks();
            default: return plan.countBorrowed();
        }
    }

    public int outAt(int service) throws IndexOutOfBoundsException {
        needService(service);
        planner.chooseRows(now, service, NONE, plan);
        return planner.firstRowOut;
    }

    public int missing(int service) throws IndexOutOfBoundsException {
        needService(service);
        return planner.countMissing(now, service);
    }

    public int bestBuy(int service) throws IndexOutOfBoundsException {
        needService(service);
        planner.chooseRows(now, service, NONE, plan);
        int mostRows = planner.rowsHung;
        int best = NONE;
        for (int digit = 0; digit < DIGITS; digit++) {
            planner.chooseRows(now, service, digit, plan);
            if (planner.rowsHung > mostRows) {
                mostRows = planner.rowsHung;
                best = digit;
            }
        }
        return best;
    }

    public int firstOut() {
        for (int service = 0; service < now.services.many; service++) {
            planner.chooseRows(now, service, NONE, plan);
            if (planner.rowsOut > 0) {
                return service;
            }
        }
        return NONE;
    }

    public int workFrom(int first, int second) throws IndexOutOfBoundsException {
        needService(first);
        needService(second);
        planner.chooseRows(now, first, NONE, earlierPlan);
        planner.chooseRows(now, second, NONE, plan);
        return earlierPlan.workTo(plan);
    }

    public int easiest() {
        int best = NONE;
        int leastWork = 0;
        for (int service = 0; service < now.services.many; service++) {
            planner.chooseRows(now, service, NONE, plan);
            int work = now.hanging.workTo(plan);
            if (best == NONE || work < leastWork) {
                best = service;
                leastWork = work;
            }
        }
        return best;
    }

    public int wouldFall() {
        int cards = 0;
        for (int kind = 0; kind < KINDS_TO_LEND; kind++) {
            int sort = MOST_OWN + kind;
            int stay = now.stock.count[sort] - now.stock.endingOf(kind);
            cards += Math.max(0, now.hanging.hangs[sort] - stay);
        }
        return cards;
    }

    public int lenders(int digit) throws IllegalArgumentException {
        needDigit(digit);
        int sum = 0;
        for (int friend = 0; friend < now.stock.friends; friend++) {
            if (now.stock.toLend[friend * DIGITS + digit] > 0) {
                sum += 1 << friend;
            }
        }
        return sum;
    }

    // ---- actions ----

    public int hang(int service) throws IndexOutOfBoundsException {
        needService(service);
        history.keep(now);
        planner.chooseRows(now, service, NONE, plan);
        planner.chooseCards(now.stock, plan);
        int work = now.hanging.workTo(plan);
        now.hanging.copyFrom(plan);
        now.hanging.service = service;
        now.work += work;
        now.rowsHung += planner.rowsHung;
        now.rowsOut += planner.rowsOut;
        return work;
    }

    public int hold() {
        if (now.hanging.service == NONE) {
            return WRONG;
        }
        history.keep(now);
        now.held++;
        now.stock.passService();
        return now.takeTooManyDown();
    }

    public int clear() {
        history.keep(now);
        int cards = now.hanging.countCards();
        now.hanging.takeAllDown();
        return cards;
    }

    public int borrow(int friend, int digit, int many) throws IndexOutOfBoundsException, IllegalArgumentException {
        needFriend(friend);
        needDigit(digit);
        needMany(many);
        int kind = friend * DIGITS + digit;
        if (many > now.stock.toLend[kind]) {
            return WRONG;
        }
        if (now.stock.loans == MOST_LOANS) {
            return FULL;
        }
        history.keep(now);
        return now.stock.makeLoan(kind, many);
    }

    public int giveBack(int loan) throws IndexOutOfBoundsException {
        needIndex(within(loan, 0, now.stock.loans - 1));
        history.keep(now);
        now.stock.endLoan(loan);
        return now.takeTooManyDown();
    }

    public int buy(int card, int many) throws IndexOutOfBoundsException, IllegalArgumentException {
        needOwn(card);
        needMany(many);
        if (now.stock.count[card] + many > HIGHEST_COUNT) {
            return FULL;
        }
        history.keep(now);
        now.stock.count[card] += many;
        return now.stock.count[card];
    }

    public int lose(int card, int many) throws IndexOutOfBoundsException, IllegalArgumentException {
        needOwn(card);
        needMany(many);
        if (now.stock.count[card] < many) {
            return WRONG;
        }
        history.keep(now);
        now.stock.count[card] -= many;
        return now.takeTooManyDown();
    }

    public int addCard(int front, int back, int count) throws IllegalArgumentException {
        needDigit(front);
        needArgument(within(back, NONE, DIGITS - 1));
        needArgument(within(count, 0, HIGHEST_COUNT));
        if (now.stock.own == MOST_OWN) {
            return FULL;
        }
        history.keep(now);
        return now.stock.addSort(front, back, count);
    }

    public boolean setTurn(boolean on) {
        history.keep(now);
        boolean before = now.stock.turn;
        now.stock.turn = on;
        return before;
    }

    public boolean setSplit(boolean on) {
        history.keep(now);
        boolean before = now.split;
        now.split = on;
        return before;
    }

    public int setHymn(int service, int index, int hymn) throws IndexOutOfBoundsException, IllegalArgumentException {
        needService(service);
        needHymn(hymn);
        int before = now.services.hymnAt(service, index);
        if (before == NONE) {
            return WRONG;
        }
        history.keep(now);
        now.services.hymn[service * MOST_HYMNS + index] = hymn;
        return before;
    }

    public int addHymn(int service, int hymn) throws IndexOutOfBoundsException, IllegalArgumentException {
        needService(service);
        needHymn(hymn);
        if (now.services.length[service] == MOST_HYMNS) {
            return FULL;
        }
        history.keep(now);
        return now.services.lengthen(service, hymn);
    }

    public int addService(int hymn) throws IllegalArgumentException {
        needHymn(hymn);
        if (now.services.many == MOST_SERVICES) {
            return FULL;
        }
        history.keep(now);
        int service = now.services.addEmpty();
        now.services.lengthen(service, hymn);
        return service;
    }

    // ---- parts, output, going back ----

    public double luck() {
        int all = now.rowsHung + now.rowsOut;
        return all == 0 ? 0.0 : (double) now.rowsHung / (double) all;
    }

    public float turned() {
        int cards = now.hanging.countCards();
        return cards == 0 ? 0.0f : (float) now.hanging.countTurned() / (float) cards;
    }

    public int write() {
        output.length = 0;
        for (int board = 0; board < now.boards; board++) {
            if (board > 0) {
                output.put(' ');
            }
            for (int row = 0; row < now.rowsOf[board]; row++) {
                if (row > 0) {
                    output.put('/');
                }
                output.putRow(now.hanging, board * MOST_ROWS + row);
            }
        }
        return output.length;
    }

    public int writeService(int service) throws IndexOutOfBoundsException {
        needService(service);
        output.length = 0;
        for (int index = 0; index < now.services.length[service]; index++) {
            if (index > 0) {
                output.put(' ');
            }
            output.putNumber(now.services.hymnAt(service, index));
        }
        return output.length;
    }

    public int outputByte(int index) {
        return within(index, 0, output.length - 1) ? output.bytes[index] : NONE;
    }

    public int undo() {
        if (history.kept == 0) {
            return NONE;
        }
        history.goBack(now);
        return history.kept;
    }

    public int saveSnapshot(int slot) throws IllegalArgumentException {
        needArgument(within(slot, 0, SLOTS - 1));
        snapshots[slot].copyFrom(now);
        saved[slot] = true;
        return now.held;
    }

    public int restoreSnapshot(int slot) throws IllegalArgumentException {
        needArgument(within(slot, 0, SLOTS - 1));
        if (!saved[slot]) {
            return NONE;
        }
        now.copyFrom(snapshots[slot]);
        history.forget();
        return now.held;
    }

    // ---- looking at arguments ----

    private static boolean within(int value, int low, int high) {
        return value >= low && value <= high;
    }

    private static void needIndex(boolean exists) {
        if (!exists) {
            throw new IndexOutOfBoundsException("there is no such thing");
        }
    }

    private static void needArgument(boolean inRange) {
        if (!inRange) {
            throw new IllegalArgumentException("an argument is out of range");
        }
    }

    private static void needDigit(int digit) {
        needArgument(within(digit, 0, DIGITS - 1));
    }

    private static void needHymn(int hymn) {
        needArgument(within(hymn, 1, HIGHEST_HYMN));
    }

    private static void needMany(int many) {
        needArgument(within(many, 1, HIGHEST_COUNT));
    }

    private void needService(int service) {
        needIndex(within(service, 0, now.services.many - 1));
    }

    private void needFriend(int friend) {
        needIndex(within(friend, 0, now.stock.friends - 1));
    }

    private void needOwn(int card) {
        needIndex(within(card, 0, now.stock.own - 1));
    }

    private void needRow(int board, int row) {
        needIndex(within(board, 0, now.boards - 1));
        needIndex(within(row, 0, now.rowsOf[board] - 1));
    }

    private int sortOf(int card) {
        if (card < FIRST_BORROWED) {
            needOwn(card);
            return card;
        }
        int kind = card - FIRST_BORROWED;
        needFriend(kind / DIGITS);
        return MOST_OWN + kind;
    }

    private static int numberOf(int sort) {
        return sort < MOST_OWN ? sort : FIRST_BORROWED + sort - MOST_OWN;
    }

    /**
     * All cards and who lends them. Sorts 0 to 11 are own ones; sort 12 + KIND are the borrowed ones of a kind,
     * where KIND is 10 * friend + digit: so the order of sorts is that of the numbers of cards.
     */
    private static final class Stock {
        boolean turn;
        int own;
        final int[] front = new int[MOST_OWN];
        final int[] back = new int[MOST_OWN];
        final int[] count = new int[SORTS];
        int friends;
        final int[] term = new int[MOST_FRIENDS];
        final int[] toLend = new int[KINDS_TO_LEND];
        int loans;
        final int[] loanKind = new int[MOST_LOANS];
        final int[] loanMany = new int[MOST_LOANS];
        final int[] loanLeft = new int[MOST_LOANS];

        void startAnew() {
            turn = false;
            own = 0;
            friends = 0;
            loans = 0;
            Arrays.fill(count, 0);
            Arrays.fill(toLend, 0);
        }

        void copyFrom(Stock other) {
            turn = other.turn;
            own = other.own;
            friends = other.friends;
            loans = other.loans;
            System.arraycopy(other.front, 0, front, 0, MOST_OWN);
            System.arraycopy(other.back, 0, back, 0, MOST_OWN);
            System.arraycopy(other.count, 0, count, 0, SORTS);
            System.arraycopy(other.term, 0, term, 0, MOST_FRIENDS);
            System.arraycopy(other.toLend, 0, toLend, 0, KINDS_TO_LEND);
            System.arraycopy(other.loanKind, 0, loanKind, 0, MOST_LOANS);
            System.arraycopy(other.loanMany, 0, loanMany, 0, MOST_LOANS);
            System.arraycopy(other.loanLeft, 0, loanLeft, 0, MOST_LOANS);
        }

        int addSort(int itsFront, int itsBack, int itsCount) {
            front[own] = itsFront;
            back[own] = itsBack;
            count[own] = itsCount;
            own++;
            return own - 1;
        }

        int frontOf(int sort) {
            return sort < MOST_OWN ? front[sort] : (sort - MOST_OWN) % DIGITS;
        }

        int backOf(int sort) {
            return sort < MOST_OWN ? back[sort] : NONE;
        }

        int wayOf(int sort, int digit) {
            int itsFront = frontOf(sort);
            int itsBack = backOf(sort);
            if (itsFront == digit) {
                return 0;
            }
            if (itsBack == digit) {
                return 1;
            }
            if (!turn || !isTurnable(digit)) {
                return NONE;
            }
            if (itsFront == otherOfBoth(digit)) {
                return 2;
            }
            return itsBack == otherOfBoth(digit) ? 3 : NONE;
        }

        static boolean isTurnable(int digit) {
            return digit == 6 || digit == 9;
        }

        static int otherOfBoth(int sixOrNine) {
            return 15 - sixOrNine;
        }

        /** The digits that a card can show, digit D as bit D. */
        int digitsOf(int sort) {
            return digitsOfSide(frontOf(sort)) | digitsOfSide(backOf(sort));
        }

        int digitsOfSide(int side) {
            if (side == NONE) {
                return 0;
            }
            int digits = 1 << side;
            return turn && isTurnable(side) ? digits | 1 << otherOfBoth(side) : digits;
        }

        /** False also for sorts that there are not: those have no cards, so that it makes no difference. */
        boolean showsDigit(int sort, int digit) {
            return count[sort] > 0 && wayOf(sort, digit) != NONE;
        }

        int makeLoan(int kind, int many) {
            toLend[kind] -= many;
            count[MOST_OWN + kind] += many;
            loanKind[loans] = kind;
            loanMany[loans] = many;
            loanLeft[loans] = term[kind / DIGITS];
            loans++;
            return loans - 1;
        }

        void endLoan(int loan) {
            int kind = loanKind[loan];
            toLend[kind] += loanMany[loan];
            count[MOST_OWN + kind] -= loanMany[loan];
            loans--;
            for (int behind = loan; behind < loans; behind++) {
                loanKind[behind] = loanKind[behind + 1];
                loanMany[behind] = loanMany[behind + 1];
                loanLeft[behind] = loanLeft[behind + 1];
            }
        }

        void passService() {
            // From the last one, as those behind a loan that ends move.
            for (int loan = loans - 1; loan >= 0; loan--) {
                loanLeft[loan]--;
                if (loanLeft[loan] == 0) {
                    endLoan(loan);
                }
            }
        }

        /** How many cards of a kind go back when one more service is held. */
        int endingOf(int kind) {
            int cards = 0;
            for (int loan = 0; loan < loans; loan++) {
                if (loanKind[loan] == kind && loanLeft[loan] == 1) {
                    cards += loanMany[loan];
                }
            }
            return cards;
        }
    }

    /** The lists of hymns. */
    private static final class Services {
        int many;
        final int[] length = new int[MOST_SERVICES];
        final int[] hymn = new int[MOST_SERVICES * MOST_HYMNS];

        void copyFrom(Services other) {
            many = other.many;
            System.arraycopy(other.length, 0, length, 0, MOST_SERVICES);
            System.arraycopy(other.hymn, 0, hymn, 0, MOST_SERVICES * MOST_HYMNS);
        }

        int hymnAt(int service, int index) {
            return within(index, 0, length[service] - 1) ? hymn[service * MOST_HYMNS + index] : NONE;
        }

        int addEmpty() {
            length[many] = 0;
            many++;
            return many - 1;
        }

        int lengthen(int service, int itsHymn) {
            hymn[service * MOST_HYMNS + length[service]] = itsHymn;
            length[service]++;
            return length[service];
        }
    }

    /**
     * What hangs on the boards. Each board has room for 6 rows, so that a row has the same index whatever the
     * boards ahead are like; rows that a board lacks stay blank.
     */
    private static final class Hanging {
        int service = NONE;
        final int[] hymn = new int[ALL_ROWS];
        final int[] digit = new int[PLACES];
        final int[] sort = new int[PLACES];
        final int[] way = new int[PLACES];
        final int[] hangs = new int[SORTS];

        void takeAllDown() {
            service = NONE;
            Arrays.fill(hymn, NONE);
            Arrays.fill(digit, NONE);
            Arrays.fill(sort, NONE);
            Arrays.fill(way, NONE);
            Arrays.fill(hangs, 0);
        }

        void copyFrom(Hanging other) {
            service = other.service;
            System.arraycopy(other.hymn, 0, hymn, 0, ALL_ROWS);
            System.arraycopy(other.digit, 0, digit, 0, PLACES);
            System.arraycopy(other.sort, 0, sort, 0, PLACES);
            System.arraycopy(other.way, 0, way, 0, PLACES);
            System.arraycopy(other.hangs, 0, hangs, 0, SORTS);
        }

        void putHymn(int row, int itsHymn) {
            hymn[row] = itsHymn;
            int rest = itsHymn;
            for (int column = COLUMNS - 1; column >= 0 && rest > 0; column--) {
                digit[row * COLUMNS + column] = rest % 10;
                rest /= 10;
            }
        }

        void putCard(int place, int itsSort, int itsWay) {
            sort[place] = itsSort;
            way[place] = itsWay;
            hangs[itsSort]++;
        }

        void takeCardDown(int place) {
            hangs[sort[place]]--;
            digit[place] = NONE;
            sort[place] = NONE;
            way[place] = NONE;
        }

        int countCards() {
            int cards = 0;
            for (int place = 0; place < PLACES; place++) {
                if (digit[place] != NONE) {
                    cards++;
                }
            }
            return cards;
        }

        int countTurned() {
            int cards = 0;
            for (int place = 0; place < PLACES; place++) {
                if (way[place] == 2 || way[place] == 3) {
                    cards++;
                }
            }
            return cards;
        }

        int countBacks() {
            int cards = 0;
            for (int place = 0; place < PLACES; place++) {
                if (way[place] == 1 || way[place] == 3) {
                    cards++;
                }
            }
            return cards;
        }

        int countBorrowed() {
            int cards = 0;
            for (int place = 0; place < PLACES; place++) {
                if (sort[place] >= MOST_OWN) {
                    cards++;
                }
            }
            return cards;
        }

        int countHoles() {
            int holes = 0;
            for (int row = 0; row < ALL_ROWS; row++) {
                if (hymn[row] != NONE && lacksCard(row)) {
                    holes++;
                }
            }
            return holes;
        }

        private boolean lacksCard(int row) {
            int rest = hymn[row];
            for (int column = COLUMNS - 1; column >= 0 && rest > 0; column--) {
                if (digit[row * COLUMNS + column] == NONE) {
                    return true;
                }
                rest /= 10;
            }
            return false;
        }

        int workTo(Hanging next) {
            int work = 0;
            for (int place = 0; place < PLACES; place++) {
                if (digit[place] != next.digit[place]) {
                    work += (digit[place] == NONE ? 0 : 1) + (next.digit[place] == NONE ? 0 : 1);
                }
            }
            return work;
        }
    }

    /** Everything that actions change, that can be taken back and that a snapshot holds. */
    private static final class State {
        int boards;
        final int[] rowsOf = new int[MOST_BOARDS];
        boolean split;
        final Stock stock = new Stock();
        final Services services = new Services();
        final Hanging hanging = new Hanging();
        int held;
        int work;
        int rowsHung;
        int rowsOut;

        void startAnew() {
            boards = 0;
            split = false;
            stock.startAnew();
            services.many = 0;
            hanging.takeAllDown();
            held = 0;
            work = 0;
            rowsHung = 0;
            rowsOut = 0;
        }

        void copyFrom(State other) {
            boards = other.boards;
            System.arraycopy(other.rowsOf, 0, rowsOf, 0, MOST_BOARDS);
            split = other.split;
            stock.copyFrom(other.stock);
            services.copyFrom(other.services);
            hanging.copyFrom(other.hanging);
            held = other.held;
            work = other.work;
            rowsHung = other.rowsHung;
            rowsOut = other.rowsOut;
        }

        int rowsAhead(int board) {
            int rows = 0;
            for (int ahead = 0; ahead < board; ahead++) {
                rows += rowsOf[ahead];
            }
            return rows;
        }

        /** The hymn that a row is to show; NONE if it is to be blank. */
        int hymnFor(int service, int board, int row) {
            return services.hymnAt(service, split ? rowsAhead(board) + row : row);
        }

        /** Takes cards down of which more hang than there are, and counts them. */
        int takeTooManyDown() {
            int cards = 0;
            for (int place = PLACES - 1; place >= 0; place--) {
                int sort = hanging.sort[place];
                if (sort != NONE && hanging.hangs[sort] > stock.count[sort]) {
                    hanging.takeCardDown(place);
                    cards++;
                }
            }
            return cards;
        }
    }

    /** The states ahead of the latest actions, in a ring. */
    private static final class History {
        final State[] ring = new State[MOST_TAKEN_BACK];
        int next;
        int kept;

        History() {
            for (int index = 0; index < MOST_TAKEN_BACK; index++) {
                ring[index] = new State();
            }
        }

        void keep(State state) {
            ring[next].copyFrom(state);
            next = (next + 1) % MOST_TAKEN_BACK;
            kept = Math.min(kept + 1, MOST_TAKEN_BACK);
        }

        void goBack(State state) {
            next = (next + MOST_TAKEN_BACK - 1) % MOST_TAKEN_BACK;
            state.copyFrom(ring[next]);
            kept--;
        }

        void forget() {
            kept = 0;
        }
    }

    /**
     * Digits to be shown at the same time, and for each a card that shows it: a flow from sorts of cards to digits
     * that is enlarged by a digit at a time.
     */
    private static final class Matching {
        /** One more than there are sorts: a card that might be bought. */
        static final int MOST_OFFERS = SORTS + 1;

        int offers;
        final int[] sort = new int[MOST_OFFERS];
        final int[] digits = new int[MOST_OFFERS];
        final int[] left = new int[MOST_OFFERS];
        final int[] used = new int[MOST_OFFERS];
        final int[] shown = new int[MOST_OFFERS * DIGITS];
        final int[] queue = new int[DIGITS];
        final int[] cameFrom = new int[DIGITS];
        final int[] cameBy = new int[DIGITS];

        void startEmpty() {
            offers = 0;
            Arrays.fill(shown, 0);
        }

        void offer(int itsSort, int itsDigits, int cards) {
            if (cards > 0 && offers < MOST_OFFERS) {
                sort[offers] = itsSort;
                digits[offers] = itsDigits;
                left[offers] = cards;
                used[offers] = 0;
                offers++;
            }
        }

        /** Adds all digits of a hymn, or none of them if they can't be shown too. */
        boolean addDigitsOf(int hymn) {
            for (int rest = hymn; rest > 0; rest /= 10) {
                if (!addDigit(rest % 10)) {
                    dropDigitsOf(hymn, rest);
                    return false;
                }
            }
            return true;
        }

        private void dropDigitsOf(int hymn, int firstNotAdded) {
            for (int rest = hymn; rest > 0 && rest > firstNotAdded; rest /= 10) {
                int offer = offerThatShows(rest % 10);
                if (offer != NONE) {
                    change(offer, rest % 10, -1);
                }
            }
        }

        /**
         * Adds a digit, if need be by letting cards show other digits than they do: the search goes by breadth over
         * the digits whose card would have to be another one.
         */
        boolean addDigit(int digit) {
            int reached = 1 << digit;
            queue[0] = digit;
            int queued = 1;
            for (int head = 0; head < queued && head < DIGITS; head++) {
                int wanted = queue[head];
                for (int offer = 0; offer < offers; offer++) {
                    if ((digits[offer] >> wanted & 1) == 0) {
                        continue;
                    }
                    if (used[offer] < left[offer]) {
                        passOn(digit, wanted, offer);
                        return true;
                    }
                    for (int other = 0; other < DIGITS; other++) {
                        if ((reached >> other & 1) == 0 && shown[offer * DIGITS + other] > 0) {
                            reached |= 1 << other;
                            cameFrom[other] = wanted;
                            cameBy[other] = offer;
                            queue[queued] = other;
                            queued++;
                        }
                    }
                }
            }
            return false;
        }

        /** Lets an offer show the last digit of a way of the search, and each digit ahead take over the next card. */
        private void passOn(int first, int last, int offer) {
            change(offer, last, 1);
            int digit = last;
            for (int step = 0; step < DIGITS && digit != first; step++) {
                int before = cameFrom[digit];
                change(cameBy[digit], digit, -1);
                change(cameBy[digit], before, 1);
                digit = before;
            }
        }

        private void change(int offer, int digit, int by) {
            shown[offer * DIGITS + digit] += by;
            used[offer] += by;
        }

        private int offerThatShows(int digit) {
            for (int offer = 0; offer < offers; offer++) {
                if (shown[offer * DIGITS + digit] > 0) {
                    return offer;
                }
            }
            return NONE;
        }

        /**
         * Gives the first offer away with which all digits but one of this sort can still be shown.
         * Returns the offer; NONE if this digit was not added.
         */
        int giveAway(int digit) {
            int fallback = offerThatShows(digit);
            if (fallback == NONE) {
                return NONE;
            }
            change(fallback, digit, -1);
            for (int offer = 0; offer < fallback; offer++) {
                if (left[offer] > 0 && (digits[offer] >> digit & 1) != 0 && canSpare(offer)) {
                    left[offer]--;
                    return offer;
                }
            }
            left[fallback]--;
            return fallback;
        }

        /** Makes a card of an offer unused, if the others can do its work. */
        private boolean canSpare(int offer) {
            if (used[offer] < left[offer]) {
                return true;
            }
            int digit = firstShownBy(offer);
            if (digit == NONE) {
                return false;
            }
            change(offer, digit, -1);
            left[offer]--;
            boolean spared = addDigit(digit);
            left[offer]++;
            if (!spared) {
                change(offer, digit, 1);
            }
            return spared;
        }

        private int firstShownBy(int offer) {
            for (int digit = 0; digit < DIGITS; digit++) {
                if (shown[offer * DIGITS + digit] > 0) {
                    return digit;
                }
            }
            return NONE;
        }
    }

    /** Finds out what hangs when a service is hung: first the rows, then the cards. */
    private static final class Planner {
        final Matching matching = new Matching();
        int rowsHung;
        int rowsOut;
        int firstRowOut;

        private void offerAll(Stock stock) {
            matching.startEmpty();
            for (int sort = 0; sort < SORTS; sort++) {
                if (stock.count[sort] > 0) {
                    matching.offer(sort, stock.digitsOf(sort), stock.count[sort]);
                }
            }
        }

        private void offerFree(Stock stock, Hanging hanging) {
            matching.startEmpty();
            for (int sort = 0; sort < SORTS; sort++) {
                if (stock.count[sort] > 0) {
                    matching.offer(sort, stock.digitsOf(sort), stock.count[sort] - hanging.hangs[sort]);
                }
            }
        }

        boolean couldShow(State state, int hymn) {
            offerFree(state.stock, state.hanging);
            return matching.addDigitsOf(hymn);
        }

        /** Puts the digits that would hang into a plan; as if there was one more card, unless its digit is NONE. */
        void chooseRows(State state, int service, int digitMore, Hanging plan) {
            offerAll(state.stock);
            if (digitMore != NONE) {
                matching.offer(NONE, state.stock.digitsOfSide(digitMore), 1);
            }
            plan.takeAllDown();
            rowsHung = 0;
            rowsOut = 0;
            firstRowOut = NONE;
            for (int board = 0; board < state.boards; board++) {
                for (int row = 0; row < state.rowsOf[board]; row++) {
                    int hymn = state.hymnFor(service, board, row);
                    if (hymn != NONE) {
                        chooseRow(board, row, hymn, plan);
                    }
                }
            }
        }

        private void chooseRow(int board, int row, int hymn, Hanging plan) {
            if (matching.addDigitsOf(hymn)) {
                plan.putHymn(board * MOST_ROWS + row, hymn);
                rowsHung++;
                return;
            }
            if (rowsOut == 0) {
                firstRowOut = 100 * board + row;
            }
            rowsOut++;
        }

        /** Puts the cards to the digits of the plan for which the rows were chosen last. */
        void chooseCards(Stock stock, Hanging plan) {
            for (int place = 0; place < PLACES; place++) {
                int digit = plan.digit[place];
                int offer = digit == NONE ? NONE : matching.giveAway(digit);
                if (offer != NONE) {
                    int sort = matching.sort[offer];
                    plan.putCard(place, sort, stock.wayOf(sort, digit));
                }
            }
        }

        int countMissing(State state, int service) {
            offerAll(state.stock);
            int missing = 0;
            for (int board = 0; board < state.boards; board++) {
                for (int row = 0; row < state.rowsOf[board]; row++) {
                    for (int rest = state.hymnFor(service, board, row); rest > 0; rest /= 10) {
                        if (!matching.addDigit(rest % 10)) {
                            missing++;
                        }
                    }
                }
            }
            return missing;
        }
    }

    /** The bytes that were written last. */
    private static final class Output {
        final int[] bytes = new int[MOST_OUTPUT];
        int length;

        void put(int oneByte) {
            if (length < MOST_OUTPUT) {
                bytes[length] = oneByte;
                length++;
            }
        }

        void putRow(Hanging hanging, int row) {
            for (int column = 0; column < COLUMNS; column++) {
                int digit = hanging.digit[row * COLUMNS + column];
                put(digit == NONE ? '.' : '0' + digit);
            }
        }

        void putNumber(int hymn) {
            if (hymn >= 100) {
                put('0' + hymn / 100);
            }
            if (hymn >= 10) {
                put('0' + hymn / 10 % 10);
            }
            put('0' + hymn % 10);
        }
    }

    /** The input buffer, and how it is read as a description: a token at a time, up to the first error. */
    private static final class Reader {
        static final int END = 0;
        static final int WORD = 1;
        static final int NUMBER = 2;
        static final int SIGN = 3;
        static final int TOO_HIGH = 1000000;

        final int[] text = new int[MOST_INPUT];
        int length;
        int error;
        int errorAt;
        int statement;

        private int kind;
        private int start;
        private int end;
        private int value;
        private int openBrackets;
        private final int[] hymnsAhead = new int[MOST_OPEN_BRACKETS];

        int takeBytes(long bytes) {
            int more = 0;
            for (int shift = 56; shift >= 0; shift -= 8) {
                if ((bytes >>> shift & 255) != 0) {
                    more++;
                }
            }
            if (length + more > MOST_INPUT) {
                return FULL;
            }
            for (int shift = 56; shift >= 0; shift -= 8) {
                int oneByte = (int) (bytes >>> shift & 255);
                if (oneByte != 0) {
                    text[length] = oneByte;
                    length++;
                }
            }
            return length;
        }

        /** Returns whether the text has no error. */
        boolean readInto(State state) {
            state.startAnew();
            error = 0;
            errorAt = 0;
            statement = 0;
            end = 0;
            advance();
            if (!readBoards(state)) {
                return false;
            }
            for (int semicolons = 0; semicolons < length && isSign(';'); semicolons++) {
                statement++;
                advance();
                if (!readStatement(state)) {
                    return false;
                }
            }
            return kind == END || fail(1);
        }

        private boolean fail(int itsError) {
            error = itsError;
            errorAt = start;
            return false;
        }

        private boolean readStatement(State state) {
            if (isWord("card")) {
                return readCard(state.stock);
            }
            if (isWord("friend")) {
                return readFriend(state.stock);
            }
            if (isWord("service")) {
                return readService(state.services);
            }
            return fail(1);
        }

        private boolean readBoards(State state) {
            if (!isWord("board")) {
                return fail(1);
            }
            advance();
            for (int board = 0; board == 0 || board <= MOST_BOARDS && kind == NUMBER; board++) {
                if (!isNumber(1, MOST_ROWS)) {
                    return false;
                }
                if (board == MOST_BOARDS) {
                    return fail(3);
                }
                state.rowsOf[board] = value;
                state.boards++;
                advance();
            }
            if (isWord("turn")) {
                state.stock.turn = true;
                advance();
            }
            if (isWord("split")) {
                state.split = true;
                advance();
            }
            return true;
        }

        private boolean readCard(Stock stock) {
            if (stock.own == MOST_OWN) {
                return fail(3);
            }
            advance();
            if (!isNumber(0, DIGITS - 1)) {
                return false;
            }
            int front = value;
            int back = NONE;
            advance();
            if (isWord("back")) {
                advance();
                if (!isNumber(0, DIGITS - 1)) {
                    return false;
                }
                back = value;
                advance();
            }
            if (!isNumber(0, HIGHEST_COUNT)) {
                return false;
            }
            stock.addSort(front, back, value);
            advance();
            return true;
        }

        private boolean readFriend(Stock stock) {
            if (stock.friends == MOST_FRIENDS) {
                return fail(3);
            }
            advance();
            if (!isNumber(1, HIGHEST_TERM)) {
                return false;
            }
            stock.term[stock.friends] = value;
            advance();
            for (int digit = 0; digit < DIGITS; digit++) {
                if (!isNumber(0, HIGHEST_TO_LEND)) {
                    return false;
                }
                stock.toLend[stock.friends * DIGITS + digit] = value;
                advance();
            }
            stock.friends++;
            return true;
        }

        private boolean readService(Services services) {
            if (services.many == MOST_SERVICES) {
                return fail(3);
            }
            int service = services.addEmpty();
            openBrackets = 0;
            advance();
            boolean partIsDue = true;
            for (int parts = 0; parts <= length; parts++) {
                boolean fine;
                if (isSign('(')) {
                    fine = openBracket(services.length[service]);
                    partIsDue = true;
                } else if (isSign(')') && openBrackets > 0 && !partIsDue) {
                    fine = closeBracket(services, service);
                } else if (kind == NUMBER || partIsDue || openBrackets > 0) {
                    fine = readHymn(services, service);
                    partIsDue = false;
                } else {
                    return true;
                }
                if (!fine) {
                    return false;
                }
            }
            return true;
        }

        private boolean readHymn(Services services, int service) {
            if (!isNumber(1, HIGHEST_HYMN)) {
                return false;
            }
            if (services.length[service] == MOST_HYMNS) {
                return fail(4);
            }
            services.lengthen(service, value);
            advance();
            return true;
        }

        private boolean openBracket(int itsHymnsAhead) {
            if (openBrackets == MOST_OPEN_BRACKETS) {
                return fail(3);
            }
            hymnsAhead[openBrackets] = itsHymnsAhead;
            openBrackets++;
            advance();
            return true;
        }

        private boolean closeBracket(Services services, int service) {
            advance();
            if (!isNumber(1, MOST_REPEATS)) {
                return false;
            }
            openBrackets--;
            int ahead = hymnsAhead[openBrackets];
            int inside = services.length[service] - ahead;
            if (ahead + inside * value > MOST_HYMNS) {
                return fail(4);
            }
            for (int more = inside * (value - 1); more > 0; more--) {
                // The hymn that is INSIDE places ahead of the end is the one that comes next.
                services.lengthen(service, services.hymnAt(service, services.length[service] - inside));
            }
            advance();
            return true;
        }

        private boolean isSign(int sign) {
            return kind == SIGN && value == sign;
        }

        private boolean isWord(String word) {
            if (kind != WORD || end - start != word.length()) {
                return false;
            }
            for (int index = 0; index < word.length(); index++) {
                if (text[start + index] != word.charAt(index)) {
                    return false;
                }
            }
            return true;
        }

        /** Looks whether a number within a range stands here, and fails if not. */
        private boolean isNumber(int low, int high) {
            if (kind != NUMBER) {
                return fail(1);
            }
            return within(value, low, high) || fail(2);
        }

        /** Goes on to the next token. */
        private void advance() {
            start = end;
            while (start < length && text[start] == ' ') {
                start++;
            }
            end = start;
            if (start == length) {
                kind = END;
            } else if (isLetter(text[start])) {
                kind = WORD;
                while (end < length && isLetter(text[end])) {
                    end++;
                }
            } else if (isDigit(text[start])) {
                kind = NUMBER;
                value = 0;
                while (end < length && isDigit(text[end])) {
                    value = Math.min(value * 10 + text[end] - '0', TOO_HIGH);
                    end++;
                }
            } else {
                kind = SIGN;
                value = text[start];
                end++;
            }
        }

        private static boolean isLetter(int oneByte) {
            return oneByte >= 'a' && oneByte <= 'z';
        }

        private static boolean isDigit(int oneByte) {
            return oneByte >= '0' && oneByte <= '9';
        }
    }
}
