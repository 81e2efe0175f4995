/** The boundary cases that the promises 6 to 28 and 42 to 46 name: calls that tell something. */
final class QueryEdges {
    private static final String IOOBE = " => throws.IndexOutOfBoundsException\n";
    private static final String IAE = " => throws.IllegalArgumentException\n";
    private static final String LEAST = "-2147483648";
    private static final String GREATEST = "2147483647";
    private static final String FULL_TEXT = "load board 6 6 6 turn split" + ";card 8 60".repeat(12)
        + ";friend 9 0 0 0 0 0 0 0 0 0 20".repeat(3) + ";service 8".repeat(16) + " => 16\n";

    private QueryEdges() { }

    static void all() {
        size();
        card();
        way();
        lends();
        loan();
        rowsAndLists();
        place();
        hung();
        holes();
        free();
        canShow();
        most();
        would();
        outAt();
        missing();
        bestBuy();
        firstOut();
        workFrom();
        easiest();
        wouldFall();
        lenders();
        luckAndTurned();
        write();
        writeService();
        outputByte();
    }

    private static void size() {
        Edges.edge(6, "Throws `IllegalArgumentException` if what is out of range",
            "size(-1) | size(15) | size(" + LEAST + ") | size(" + GREATEST + ")" + IAE + "size(0) => 1\nsize(14) => 0\n"
            + FULL_TEXT + "size(-1) | size(15)" + IAE);
        Edges.edge(6, "Returns a number || Returns the number || what: 0 boards, 1 all rows", """
            load board 1 => 0
            size(0) | size(1) => 1
            load board 6 1 => 0
            size(0) => 2
            size(1) => 7
            load board 6 6 6 => 0
            size(0) => 3
            size(1) => 18
            """);
        Edges.edge(6, "2 1 if TURN is on, otherwise 0, 3 1 if SPLIT is on, otherwise 0", """
            size(2) | size(3) => 0
            load board 1 turn => 0
            size(2) => 1
            size(3) => 0
            load board 1 split => 0
            size(2) => 0
            size(3) => 1
            load board 1 turn split => 0
            load board 1 => 0
            size(2) | size(3) => 0
            setSplit(true) => false
            setTurn(true) => false
            setSplit(false) => true
            size(2) => 1
            size(3) => 0
            """);
        Edges.edge(6, "4 own cards (sorts), 5 friends, 6 services, 7 loans", "size(4) | size(5) | size(6) | size(7) => 0\n"
            + FULL_TEXT + "size(4) => 12\nsize(5) => 3\nsize(6) => 16\nsize(7) => 0\n"
            + Edges.counted(12, "borrow(2, 9, 1) => #") + "size(7) => 12\n");
        Edges.edge(6, "8 the service that was hung last (NONE)", """
            size(8) => -1
            load board 1; card 1 1; service 1; service 2 => 2
            size(8) => -1
            hang(0) => 1
            size(8) => 0
            hang(1) => 1
            size(8) => 1
            hold() => 0
            size(8) => 1
            hang(0) => 1
            lose(0, 1) => 1
            size(8) => 0
            clear() => 0
            size(8) => -1
            undo() => 5
            size(8) => 0
            """ + FULL_TEXT + "size(8) => -1\nhang(15) => 1\nsize(8) => 15\n");
        Edges.edge(6, "9 cards that hang", """
            size(9) => 0
            load board 6 6 6; card 8 54; service (888) 6; service 9 => 2
            size(9) => 0
            hang(0) => 54
            size(9) => 54
            lose(0, 54) => 54
            size(9) => 0
            buy(0, 1) => 1
            hang(0) => 0
            size(9) => 0
            setHymn(1, 0, 8) => 9
            hang(1) => 1
            size(9) => 1
            clear() => 1
            size(9) => 0
            """);
        Edges.edge(6, "10 services that were held", """
            size(10) => 0
            hold() => -3
            size(10) => 0
            addService(5) => 0
            hang(0) => 0
            hold() => 0
            hold() => 0
            size(10) => 2
            undo() => 3
            size(10) => 1
            clear() => 0
            size(10) => 1
            """);
        Edges.edge(6, "11 the WORK of all hangings so far, 12 rows that were hung so far, 13 rows that were left out so far", """
            size(11) | size(12) | size(13) => 0
            load board 6 6 6; card 8 9; service (888) 6; service 8 => 2
            hang(0) => 9
            size(11) => 9
            size(12) => 3
            size(13) => 15
            hang(0) => 0
            size(11) => 9
            size(12) => 6
            size(13) => 30
            clear() => 9
            size(11) => 9
            hang(1) => 3
            size(11) => 12
            size(12) => 9
            size(13) => 30
            would(0, 0) => 3
            workFrom(0, 1) => 10
            size(11) => 12
            size(12) => 9
            undo() => 3
            undo() => 2
            undo() => 1
            size(11) => 9
            size(12) => 3
            size(13) => 15
            """);
        Edges.edge(6, "14 actions that can be taken back", """
            size(14) => 0
            clear() => 0
            size(14) => 1
            undo() => 0
            size(14) => 0
            """ + "clear() => 0\n".repeat(8) + "size(14) => 8\nclear() => 0\nsize(14) => 8\n");
    }

    private static void card() {
        String sentence = "`card`: the number of a card (section 1) || Throws `IndexOutOfBoundsException` if there is no card with this number "
            + "(of borrowed ones: if there is no such friend)";
        Edges.edge(7, sentence, "card(0, 0) | card(-1, 0) | card(99, 0) | card(100, 0) | card(109, 0) | card(" + GREATEST
            + ", 0) | card(" + LEAST + ", 0)" + IOOBE
            + "load board 1; card 5 1; friend 1 0 0 0 0 0 0 0 0 0 0 => 0\ncard(0, 0) => 5\ncard(100, 0) => 0\ncard(109, 0) => 9\n"
            + "card(-1, 0) | card(1, 0) | card(12, 0) | card(99, 0) | card(110, 0) | card(130, 0)" + IOOBE
            + FULL_TEXT + "card(11, 0) => 8\ncard(129, 0) => 9\ncard(-1, 0) | card(12, 0) | card(99, 0) | card(130, 0)" + IOOBE);
        Edges.edge(7, "Throws `IllegalArgumentException` if what is out of range", FULL_TEXT
            + "card(0, -1) | card(0, 4) | card(129, -1) | card(129, 4) | card(0, " + LEAST + ") | card(0, " + GREATEST + ")" + IAE
            + "card(0, 0) => 8\ncard(0, 3) => 0\n");
        Edges.edge(7, "Returns a number of a card || what: 0 its FRONT, 1 its BACK (NONE), 2 its COUNT, 3 how many of it hang || "
            + "Returns the number", """
            load board 1; card 7 back 0 60; card 7 0; friend 1 0 0 0 0 0 0 0 1 0 0; service 70 => 1
            card(0, 0) | card(1, 0) => 7
            card(0, 1) => 0
            card(1, 1) | card(107, 1) => -1
            card(0, 2) => 60
            card(1, 2) | card(107, 2) | card(0, 3) | card(1, 3) | card(107, 3) => 0
            hang(0) => 2
            card(0, 3) => 2
            card(1, 3) | card(107, 3) => 0
            lose(0, 60) => 2
            card(0, 3) => 0
            """);
    }

    private static void way() {
        Edges.edge(8, "`card`: the number of a card (section 1) || Throws `IndexOutOfBoundsException` if there is no card with this number (of borrowed ones: if there is no such friend)",
            "way(0, 0) | way(-1, 0) | way(100, 0) | way(" + GREATEST + ", 0) | way(" + LEAST + ", 0)" + IOOBE
            + FULL_TEXT + "way(11, 8) | way(129, 9) => 0\nway(-1, 0) | way(12, 8) | way(99, 8) | way(130, 0)" + IOOBE);
        Edges.edge(8, "`digit`: 0 to 9 || Throws `IllegalArgumentException` if digit is out of range", FULL_TEXT
            + "way(0, -1) | way(0, 10) | way(129, -1) | way(129, 10) | way(0, " + LEAST + ") | way(0, " + GREATEST + ")" + IAE
            + "way(0, 0) | way(0, 9) => -1\n");
        Edges.edge(8, "Returns in which way a card can show a digit || Returns 0 to 3 (section 1); NONE if it cannot", """
            load board 1; card 6 back 0 0; card 1 3; friend 1 0 0 0 0 0 0 0 0 0 0 => 0
            way(0, 6) => 0
            way(0, 0) => 1
            way(0, 9) | way(0, 1) | way(1, 0) | way(1, 2) | way(1, 6) | way(100, 1) | way(106, 9) => -1
            way(100, 0) => 0
            """);
    }

    private static void lends() {
        Edges.edge(9, "`friend`: a friend || Throws `IndexOutOfBoundsException` if there is no such friend",
            "lends(0, 0) | lends(-1, 0) | lends(" + GREATEST + ", 0) | lends(" + LEAST + ", 0)" + IOOBE
            + "load board 1; friend 1 1 0 0 0 0 0 0 0 0 0 => 0\nlends(0, 0) => 1\nlends(1, 0) | lends(-1, 0)" + IOOBE
            + FULL_TEXT + "lends(2, 9) => 20\nlends(3, 9)" + IOOBE);
        Edges.edge(9, "`digit`: 0 to 9 || Throws `IllegalArgumentException` if digit is out of range", FULL_TEXT
            + "lends(0, -1) | lends(2, 10) | lends(0, " + LEAST + ") | lends(0, " + GREATEST + ")" + IAE
            + "lends(0, 0) => 0\nlends(0, 9) => 20\n");
        Edges.edge(9, "Returns how many cards of a digit a friend has to lend now || Returns the number", """
            load board 1; friend 1 20 0 0 0 0 0 0 0 0 1; friend 1 20 0 0 0 0 0 0 0 0 0; service 7 => 1
            lends(0, 0) => 20
            borrow(0, 0, 20) => 0
            lends(0, 0) => 0
            lends(1, 0) => 20
            lends(0, 9) => 1
            giveBack(0) => 0
            lends(0, 0) => 20
            borrow(0, 0, 1) => 0
            lends(0, 0) => 19
            hang(0) => 0
            hold() => 0
            lends(0, 0) => 20
            """);
    }

    private static void loan() {
        Edges.edge(10, "`loan`: a loan || Throws `IndexOutOfBoundsException` if there is no such loan",
            "loan(0, 0) | loan(-1, 0) | loan(" + GREATEST + ", 0) | loan(" + LEAST + ", 0)" + IOOBE
            + FULL_TEXT + "loan(0, 0)" + IOOBE + Edges.counted(12, "borrow(0, 9, 1) => #")
            + "loan(11, 3) => 9\nloan(12, 0) | loan(-1, 0)" + IOOBE + "giveBack(0) => 0\nloan(10, 3) => 9\nloan(11, 0)" + IOOBE);
        Edges.edge(10, "Throws `IllegalArgumentException` if what is out of range", FULL_TEXT + "borrow(0, 9, 1) => 0\n"
            + "loan(0, -1) | loan(0, 4) | loan(0, " + LEAST + ") | loan(0, " + GREATEST + ")" + IAE
            + "loan(0, 0) => 0\nloan(0, 3) => 9\n");
        Edges.edge(10, "Returns a number of a loan; loans are numbered from 0 as they were made, those behind one that ends "
            + "become one less || what: 0 its friend, 1 its digit, 2 how many cards, 3 the services that are left || Returns the number", """
            load board 1; friend 9 5 5 5 5 5 0 0 0 0 0; friend 1 5 5 5 5 5 0 0 0 0 0; service 7 => 1
            borrow(0, 0, 1) => 0
            borrow(0, 1, 2) => 1
            borrow(1, 2, 3) => 2
            borrow(0, 3, 4) => 3
            giveBack(0) => 0
            loan(0, 1) => 1
            loan(1, 1) => 2
            loan(2, 1) => 3
            giveBack(2) => 0
            loan(0, 1) => 1
            loan(1, 1) => 2
            borrow(0, 4, 5) => 2
            hang(0) => 0
            hold() => 0
            size(7) => 2
            loan(0, 0) | loan(1, 0) => 0
            loan(0, 1) => 1
            loan(0, 2) => 2
            loan(1, 1) => 4
            loan(1, 2) => 5
            loan(0, 3) | loan(1, 3) => 8
            """ + "loan(2, 0)" + IOOBE);
    }

    private static void rowsAndLists() {
        Edges.edge(11, "Services, friends, boards, rows and columns are numbered from 0 || "
            + "Throws `IndexOutOfBoundsException` if there is no such board", "rows(0) => 4\nrows(1) | rows(-1) | rows("
            + GREATEST + ") | rows(" + LEAST + ")" + IOOBE + FULL_TEXT + "rows(2) => 6\nrows(3) | rows(-1)" + IOOBE);
        Edges.edge(11, "`board`: a board || Returns how many rows a board has || Returns the number", "load board 5 3 => 0\nrows(0) => 5\n"
            + "rows(1) => 3\nload board 1 2 6 => 0\nrows(0) => 1\nrows(1) => 2\nrows(2) => 6\n");
        Edges.edge(12, "`service`: a service || Throws `IndexOutOfBoundsException` if there is no such service", "hymns(0) | hymns(-1) | hymns("
            + GREATEST + ") | hymns(" + LEAST + ")" + IOOBE + FULL_TEXT + "hymns(15) => 1\nhymns(16) | hymns(-1)" + IOOBE);
        Edges.edge(12, "Counts the hymns of a service || Returns the number", "load board 1; service 5; service (1 2) 4 => 2\n"
            + "hymns(0) => 1\nhymns(1) => 8\n");
        Edges.edge(13, "`service`: a service || Throws `IndexOutOfBoundsException` if there is no such service",
            "hymn(0, 0) | hymn(-1, 0) | hymn(0, -1)" + IOOBE + FULL_TEXT + "hymn(15, 0) => 8\nhymn(16, 0) | hymn(-1, 9) | hymn("
            + LEAST + ", 0) | hymn(" + GREATEST + ", 0)" + IOOBE);
        Edges.edge(13, "Returns a hymn of a service || `index`: its place in the list, from 0 || Returns the hymn; NONE if there is no such place", "load board 1; service 5; service 1 2 3 4 5 6 7 999 => 2\n"
            + "hymn(0, 0) => 5\nhymn(1, 7) => 999\nhymn(1, 0) => 1\n"
            + "hymn(0, 1) | hymn(0, -1) | hymn(0, 8) | hymn(1, 8) | hymn(1, -1) | hymn(0, " + GREATEST + ") | hymn(0, " + LEAST
            + ") => -1\n");
    }

    private static void place() {
        String loaded = "load board 2 6; card 1 13; service 111 1 1 1 1 11 => 1\nhang(0) => 13\n";
        Edges.edge(14, "`board`: a board || `row`: a row of it || Throws `IndexOutOfBoundsException` if there is no such board or row", loaded
            + "place(0, 1, 2, 0) | place(1, 5, 2, 0) => 1\n"
            + "place(-1, 0, 0, 0) | place(2, 0, 0, 0) | place(0, -1, 0, 0) | place(0, 2, 0, 0) | place(1, 6, 0, 0)" + IOOBE
            + "place(" + LEAST + ", 0, 0, 0) | place(" + GREATEST + ", 0, 0, 0) | place(0, " + LEAST + ", 0, 0) | place(0, "
            + GREATEST + ", 0, 0)" + IOOBE);
        Edges.edge(14, "`column`: 0 to 2 || Throws `IllegalArgumentException` if column or what is out of range", loaded
            + "place(0, 0, -1, 0) | place(0, 0, 3, 0) | place(0, 0, 0, -1) | place(0, 0, 0, 3)" + IAE
            + "place(0, 0, " + LEAST + ", 0) | place(0, 0, " + GREATEST + ", 0) | place(0, 0, 0, " + LEAST + ") | place(0, 0, 0, "
            + GREATEST + ")" + IAE + "place(1, 5, 0, 3) | place(1, 5, 3, 0)" + IAE
            + "place(0, 0, 0, 0) | place(0, 0, 2, 0) => 1\nplace(0, 0, 0, 2) => 0\n");
        Edges.edge(14, "Returns what is at a place || what: 0 the digit, 1 the number of the card, 2 the way", """
            load board 1 1 turn; card 7 1; card 6 back 2 1; card 3 back 9 1; friend 1 0 0 0 0 0 0 0 0 0 1; service 926 => 1
            borrow(0, 9, 1) => 0
            hang(0) => 3
            place(0, 0, 0, 0) => 9
            place(0, 0, 0, 1) => 2
            place(0, 0, 0, 2) => 1
            place(0, 0, 1, 0) => 2
            place(0, 0, 1, 1) | place(0, 0, 1, 2) => 1
            place(0, 0, 2, 0) => 6
            place(0, 0, 2, 1) => 109
            place(0, 0, 2, 2) => 2
            place(1, 0, 2, 0) | place(1, 0, 2, 1) => -1
            """);
        Edges.edge(14, "Returns the number; NONE if no card hangs there", """
            place(0, 0, 0, 0) | place(0, 3, 2, 0) | place(0, 0, 0, 1) | place(0, 0, 0, 2) => -1
            load board 2; card 0 3; card 1 1; service 10 2; service 100 => 2
            hang(0) => 2
            place(0, 0, 0, 0) | place(0, 0, 0, 1) | place(0, 0, 0, 2) => -1
            place(0, 1, 2, 0) | place(0, 1, 2, 1) | place(0, 1, 2, 2) => -1
            place(0, 0, 2, 0) | place(0, 0, 2, 1) | place(0, 0, 2, 2) => 0
            place(0, 0, 1, 0) | place(0, 0, 1, 1) => 1
            lose(1, 1) => 1
            place(0, 0, 1, 0) | place(0, 0, 1, 1) | place(0, 0, 1, 2) => -1
            clear() => 1
            place(0, 0, 2, 0) | place(0, 0, 2, 1) | place(0, 0, 2, 2) => -1
            """);
        Edges.edge(14, "2 the way in which it shows the digit (section 1), as when it was hung", """
            load board 1 turn; card 9 1; card 1 back 6 1; card 5 back 9 1; service 966 => 1
            hang(0) => 3
            place(0, 0, 0, 2) => 0
            place(0, 0, 1, 2) => 1
            place(0, 0, 2, 2) => 3
            setTurn(false) => true
            place(0, 0, 2, 0) => 6
            place(0, 0, 2, 2) => 3
            way(2, 6) => -1
            setTurn(true) => false
            setHymn(0, 0, 6) => 966
            hang(0) => 2
            place(0, 0, 2, 1) => 0
            place(0, 0, 2, 2) => 2
            """);
    }

    private static void hung() {
        Edges.edge(15, "`board`: a board || `row`: a row of it || Throws `IndexOutOfBoundsException` if there is no such board or row", "load board 2 6 => 0\n"
            + "hung(0, 0) | hung(0, 1) | hung(1, 5) => -1\nhung(-1, 0) | hung(2, 0) | hung(0, -1) | hung(0, 2) | hung(1, 6)" + IOOBE
            + "hung(" + LEAST + ", 0) | hung(" + GREATEST + ", 0) | hung(0, " + LEAST + ") | hung(0, " + GREATEST + ")" + IOOBE);
        Edges.edge(15, "Returns the hymn that was hung in a row || "
            + "Returns the hymn with which the row was hung last, also if cards of it came down", """
            load board 1; card 9 3; service 999 => 1
            hung(0, 0) => -1
            hang(0) => 3
            hung(0, 0) => 999
            lose(0, 1) => 1
            hung(0, 0) => 999
            lose(0, 2) => 2
            hung(0, 0) => 999
            setHymn(0, 0, 9) => 999
            hung(0, 0) => 999
            """);
        Edges.edge(15, "NONE if it was left out, is blank, or the boards were cleared", """
            load board 3; card 1 9; service 1 2; service 1 1 1; service 2 1 => 3
            hang(1) => 3
            hung(0, 1) | hung(0, 2) => 1
            hang(0) => 2
            hung(0, 0) => 1
            hung(0, 1) | hung(0, 2) => -1
            hang(2) => 2
            hung(0, 0) => -1
            hung(0, 1) => 1
            clear() => 1
            hung(0, 1) => -1
            """);
    }

    private static void holes() {
        Edges.edge(16, "Counts the rows that were hung and lack a card now || Returns the number", """
            holes() => 0
            load board 6; card 1 9; card 2 1; service 111 3 11 1; service 3 => 2
            holes() => 0
            hang(0) => 6
            holes() => 0
            lose(0, 3) => 0
            holes() => 0
            lose(0, 1) => 1
            holes() => 1
            lose(0, 1) => 1
            holes() => 2
            lose(0, 1) => 1
            holes() => 2
            lose(0, 1) => 1
            holes() => 3
            lose(0, 2) => 2
            holes() => 3
            size(9) => 0
            hang(0) => 0
            holes() => 0
            undo() => 7
            holes() => 3
            clear() => 0
            holes() => 0
            load board 4; card 1 1; card 0 4; card 9 6; service 100 9 99 90 => 1
            hang(0) => 8
            holes() => 0
            lose(0, 1) => 1
            place(0, 0, 0, 0) => -1
            place(0, 0, 1, 0) => 0
            holes() => 1
            lose(2, 5) => 3
            hung(0, 1) => 9
            holes() => 3
            """);
    }

    private static void free() {
        Edges.edge(17, "`digit`: 0 to 9 || Throws `IllegalArgumentException` if digit is out of range",
            "free(-1) | free(10) | free(" + LEAST + ") | free(" + GREATEST + ")" + IAE + "free(0) | free(9) => 0\n");
        Edges.edge(17, "Counts the cards that do not hang and can show a digit || Returns the number", FULL_TEXT + """
            free(8) => 720
            free(0) | free(9) | free(6) => 0
            borrow(0, 9, 20) => 0
            borrow(1, 9, 20) => 1
            borrow(2, 9, 20) => 2
            free(9) | free(6) => 60
            setTurn(false) => true
            free(6) => 0
            hang(0) => 1
            free(8) => 719
            load board 1; card 1 back 2 2; service 1; service 12 => 2
            free(1) | free(2) => 2
            hang(0) => 1
            free(1) | free(2) => 1
            hang(1) => 3
            free(1) | free(2) => 0
            clear() => 2
            free(1) => 2
            """);
    }

    private static void canShow() {
        Edges.edge(18, "`hymn`: 1 to 999 || Throws `IllegalArgumentException` if hymn is out of range",
            "canShow(0) | canShow(-1) | canShow(1000) | canShow(" + LEAST + ") | canShow(" + GREATEST + ")" + IAE
            + "canShow(1) | canShow(999) => false\n" + "load board 1; card 1 1; card 9 3 => 0\ncanShow(1) | canShow(999) => true\n"
            + "canShow(0) | canShow(1000)" + IAE);
        Edges.edge(18, "Returns true if so || Tells whether all digits of a hymn could be shown at the same time by different cards that do not hang", """
            load board 1; card 1 back 2 2; card 0 1; service 11; service 1 => 2
            canShow(12) | canShow(21) | canShow(11) | canShow(22) | canShow(120) | canShow(10) => true
            canShow(112) | canShow(111) | canShow(100) | canShow(3) | canShow(13) => false
            hang(1) => 1
            canShow(1) | canShow(2) | canShow(20) => true
            canShow(12) | canShow(11) => false
            hang(0) => 1
            canShow(1) | canShow(2) => false
            clear() => 2
            canShow(12) => true
            lose(0, 1) => 0
            canShow(12) => false
            lose(0, 1) => 0
            canShow(1) => false
            """);
    }

    private static void most() {
        Edges.edge(19, "`digit`: 0 to 9 || Throws `IllegalArgumentException` if digit is out of range",
            "most(-1) | most(10) | most(" + LEAST + ") | most(" + GREATEST + ")" + IAE + "most(0) | most(9) => 0\n");
        Edges.edge(19, "Counts how often a digit could be shown at the same time, by all cards that there are || Returns the number", FULL_TEXT + """
            most(8) => 720
            most(9) | most(0) => 0
            borrow(2, 9, 20) => 0
            most(9) | most(6) => 20
            hang(0) => 1
            most(8) => 720
            setTurn(false) => true
            most(6) => 0
            load board 1; card 6 back 9 3; service 66 => 1
            most(6) | most(9) => 3
            hang(0) => 2
            most(6) | most(9) => 3
            lose(0, 3) => 2
            most(6) | most(9) => 0
            """);
    }

    private static void would() {
        Edges.edge(20, "`service`: a service || Throws `IndexOutOfBoundsException` if there is no such service",
            "would(0, 0) | would(-1, 0)" + IOOBE + FULL_TEXT + "would(15, 0) => 1\nwould(16, 0) | would(-1, 0) | would(" + LEAST
            + ", 0) | would(" + GREATEST + ", 0)" + IOOBE);
        Edges.edge(20, "Throws `IllegalArgumentException` if what is out of range", FULL_TEXT
            + "would(0, -1) | would(0, 7) | would(0, " + LEAST + ") | would(0, " + GREATEST + ")" + IAE
            + "would(0, 0) => 1\nwould(0, 6) => 0\n");
        Edges.edge(20, "Tells what would be if a service was hung now || Returns the number || what: 0 rows that would be hung, "
            + "1 rows that would be left out, 2 the WORK, 3 cards that would hang", """
            load board 6 6 6 turn; service (999) 8; service 9 => 2
            would(0, 0) | would(0, 2) | would(0, 3) | would(0, 4) | would(0, 5) | would(0, 6) => 0
            would(0, 1) => 18
            would(1, 1) => 3
            addCard(6, -1, 54) => 0
            would(0, 0) => 18
            would(0, 1) => 0
            would(0, 2) | would(0, 3) | would(0, 4) => 54
            would(0, 5) | would(0, 6) => 0
            hang(0) => 54
            would(0, 2) => 0
            would(1, 2) => 51
            would(1, 3) => 3
            load board 1; card 1 9; service 10 => 1
            would(0, 0) | would(0, 2) | would(0, 3) => 0
            would(0, 1) => 1
            """);
        Edges.edge(20, "4 of them those turned (ways 2 and 3), 5 those that show their backs (ways 1 and 3), 6 borrowed ones", """
            load board 4 turn; card 9 1; card 1 back 6 1; card 2 back 9 1; card 6 1; friend 1 0 0 0 0 0 0 1 0 0 0; service 666 66 => 1
            borrow(0, 6, 1) => 0
            would(0, 0) => 2
            would(0, 3) => 5
            would(0, 4) | would(0, 5) => 2
            would(0, 6) => 1
            setTurn(false) => true
            would(0, 0) => 1
            would(0, 3) => 3
            would(0, 4) => 0
            would(0, 5) | would(0, 6) => 1
            load board 1; friend 1 0 1 0 0 0 0 0 0 0 0; friend 1 0 0 0 0 0 0 0 0 0 0; card 0 1; service 100 => 1
            borrow(0, 1, 1) => 0
            would(0, 6) => 0
            addCard(0, -1, 1) => 1
            would(0, 6) => 1
            load board 1; friend 1 3 0 0 0 0 0 0 0 0 0; card 1 1; service 100 => 1
            borrow(0, 0, 2) => 0
            would(0, 3) => 3
            would(0, 6) => 2
            """);
    }

    private static void outAt() {
        Edges.edge(21, "`service`: a service || Throws `IndexOutOfBoundsException` if there is no such service", "outAt(0) | outAt(-1)" + IOOBE
            + FULL_TEXT + "outAt(15) => -1\noutAt(16) | outAt(-1) | outAt(" + LEAST + ") | outAt(" + GREATEST + ")" + IOOBE);
        Edges.edge(21, "Tells which hymn would be left out first if a service was hung now || Returns 100 times the board plus the row", """
            load board 6 6 6; card 5 17; service (5) 6; service 4 => 2
            outAt(0) => 205
            outAt(1) => 0
            lose(0, 5) => 0
            outAt(0) => 200
            lose(0, 1) => 0
            outAt(0) => 105
            lose(0, 11) => 0
            outAt(0) => 0
            buy(0, 5) => 5
            outAt(0) => 5
            """);
        Edges.edge(21, "NONE if none would be left out", """
            load board 1; card 1 1; service 10; service 1 => 2
            outAt(0) => 0
            outAt(1) => -1
            load board 6 6 6; card 5 18; service (5) 8 => 1
            outAt(0) => -1
            lose(0, 1) => 0
            outAt(0) => 205
            load board 1; card 5 1; service 5 4 => 1
            outAt(0) => -1
            """);
    }

    private static void missing() {
        Edges.edge(22, "`service`: a service || Throws `IndexOutOfBoundsException` if there is no such service", "missing(0) | missing(-1)" + IOOBE
            + FULL_TEXT + "missing(15) => 0\nmissing(16) | missing(-1) | missing(" + LEAST + ") | missing(" + GREATEST + ")" + IOOBE);
        Edges.edge(22, "Counts the cards that are missing of a service: the digits of all rows that it is to have on the boards || "
            + "Returns the number", """
            load board 2 1; card 1 1; card 2 1; service 12 34 567; service 9; service 111 => 3
            missing(0) => 4
            missing(1) => 2
            missing(2) => 5
            setSplit(true) => false
            missing(0) => 5
            missing(1) => 1
            missing(2) => 2
            addHymn(1, 1) => 2
            missing(1) => 1
            load board 2; card 1 2; service 13 1; service 131 11 => 2
            missing(0) => 1
            missing(1) => 3
            outAt(0) => 0
            """);
        Edges.edge(22, "less the most of them that can be shown at the same time by different cards", """
            load board 6 6 6; service (999) 8; service 1 => 2
            missing(0) => 54
            missing(1) => 3
            setSplit(true) => false
            missing(0) => 24
            missing(1) => 1
            addCard(9, -1, 23) => 0
            missing(0) => 1
            buy(0, 1) => 24
            missing(0) => 0
            buy(0, 1) => 25
            missing(0) => 0
            load board 2; card 1 back 2 1; card 2 back 3 1; service 13 22; service 12 => 2
            missing(0) => 2
            missing(1) => 0
            hang(1) => 2
            missing(0) => 2
            """);
    }

    private static void bestBuy() {
        Edges.edge(23, "`service`: a service || Throws `IndexOutOfBoundsException` if there is no such service", "bestBuy(0) | bestBuy(-1)" + IOOBE
            + FULL_TEXT + "bestBuy(15) => -1\nbestBuy(16) | bestBuy(-1) | bestBuy(" + LEAST + ") | bestBuy(" + GREATEST + ")" + IOOBE);
        Edges.edge(23, "(as section 3 tells it; also if there are 12 own cards)", "load board 1" + ";card 1 60".repeat(12)
            + "; service 10; service 91; service 2 => 3\nsize(4) => 12\nbestBuy(0) => 0\nbestBuy(1) => 9\nbestBuy(2) => 2\n"
            + "setTurn(true) => false\nbestBuy(1) => 6\nsize(4) => 12\n");
        Edges.edge(23, "Finds the digit of which one more card, with this FRONT and no BACK, would let the most rows of a service hang", """
            load board 2; card 1 back 2 1; service 1 2; service 12 3; service 66 9; service 9 6 => 4
            bestBuy(0) => 1
            bestBuy(1) => 1
            bestBuy(2) => 9
            bestBuy(3) => 6
            setTurn(true) => false
            bestBuy(2) | bestBuy(3) => 6
            buy(0, 59) => 60
            bestBuy(0) => -1
            bestBuy(1) => 3
            """);
        Edges.edge(23, "would let the most rows of a service hang", """
            load board 4; card 1 2; card 3 1; service 12 113 3 1 => 1
            would(0, 0) => 1
            bestBuy(0) => 2
            addCard(2, -1, 1) => 2
            would(0, 0) => 3
            """);
        Edges.edge(23, "Returns the digit, of several the lowest one", """
            load board 3; card 4 1; service 9 2 5; service 44 47; service 9 => 3
            bestBuy(0) => 2
            bestBuy(1) => 4
            bestBuy(2) => 9
            """);
        Edges.edge(23, "NONE if none would let more rows hang than now", """
            load board 1; card 1 1; service 1; service 11; service 111; service 23 => 4
            bestBuy(0) => -1
            bestBuy(1) => 1
            bestBuy(2) | bestBuy(3) => -1
            load board 6; service 10 => 1
            bestBuy(0) => -1
            """);
    }

    private static void firstOut() {
        Edges.edge(24, "Returns the service; NONE if there is none", """
            firstOut() => -1
            load board 1; card 1 1; service 10 => 1
            firstOut() => 0
            load board 1; card 1 1; service 1; service 1 2 => 2
            firstOut() => -1
            hang(0) => 1
            firstOut() => -1
            lose(0, 1) => 1
            firstOut() => 0
            """);
        Edges.edge(24, "Finds the first service of which a row would be left out", "load board 1; card 8 1" + ";service 8".repeat(15)
            + "; service 88 => 16\nfirstOut() => 15\nsetHymn(15, 0, 8) => 88\nfirstOut() => -1\nsetHymn(14, 0, 7) => 8\n"
            + "setHymn(15, 0, 7) => 8\nfirstOut() => 14\nsetHymn(0, 0, 7) => 8\nfirstOut() => 0\n");
    }

    private static void workFrom() {
        Edges.edge(25, "`first`: a service || `second`: a service || Throws `IndexOutOfBoundsException` if there is no such service", "workFrom(0, 0) | workFrom(-1, -1)" + IOOBE
            + FULL_TEXT + "workFrom(0, 15) | workFrom(15, 0) | workFrom(15, 15) => 0\n"
            + "workFrom(16, 0) | workFrom(0, 16) | workFrom(-1, 0) | workFrom(0, -1)" + IOOBE
            + "workFrom(" + LEAST + ", 0) | workFrom(0, " + GREATEST + ")" + IOOBE);
        Edges.edge(25, "Returns the WORK of hanging a service directly behind another one, if that was hung now || "
            + "Returns the WORK of the second one", """
            load board 1; card 1 3; card 2 1; service 111; service 211; service 3; service 1 => 4
            workFrom(0, 0) | workFrom(2, 2) => 0
            workFrom(0, 1) | workFrom(1, 0) => 2
            workFrom(0, 2) | workFrom(2, 0) => 3
            workFrom(3, 0) | workFrom(0, 3) => 2
            hang(0) => 3
            workFrom(2, 0) => 3
            workFrom(0, 0) => 0
            size(11) => 3
            size(8) => 0
            load board 6 6 6; card 1 54; card 2 54; service (111) 6; service (222) 6 => 2
            workFrom(0, 1) => 108
            load board 1; card 1 2; service 10; service 1 => 2
            workFrom(0, 1) | workFrom(1, 0) => 1
            workFrom(0, 0) => 0
            """);
    }

    private static void easiest() {
        Edges.edge(26, "NONE without services", "easiest() => -1\nload board 1; card 1 1 => 0\neasiest() => -1\n");
        Edges.edge(26, "Finds the service that would be hung now with the least WORK || Returns the service, of several the lowest one", "load board 1; card 8 2" + ";service 88".repeat(15)
            + "; service 8 => 16\neasiest() => 15\nsetHymn(0, 0, 8) => 88\neasiest() => 0\nhang(3) => 2\neasiest() => 1\n"
            + "clear() => 2\nsetHymn(4, 0, 9) => 88\nsetHymn(9, 0, 9) => 88\neasiest() => 4\n"
            + "load board 1; card 1 2; service 11; service 1; service 10 => 3\neasiest() => 2\nload board 1; service 5 => 1\n"
            + "easiest() => 0\n");
    }

    private static void wouldFall() {
        Edges.edge(27, "Tells how many cards would come down if the service that hangs was held now (loans that end; 0 if none hangs) || "
            + "Returns the number", """
            wouldFall() => 0
            load board 1; card 1 1; friend 1 0 5 0 0 0 0 0 0 0 0; friend 2 0 5 0 0 0 0 0 0 0 0; service 111; service 1 => 2
            borrow(0, 1, 2) => 0
            wouldFall() => 0
            hang(0) => 3
            wouldFall() => 2
            hang(1) => 2
            wouldFall() => 0
            clear() => 1
            wouldFall() => 0
            hang(0) => 3
            borrow(0, 1, 1) => 1
            wouldFall() => 2
            borrow(1, 1, 1) => 2
            wouldFall() => 2
            hold() => 2
            wouldFall() => 0
            setHymn(1, 0, 11) => 1
            hang(1) => 3
            wouldFall() => 1
            clear() => 2
            wouldFall() => 0
            load board 1; friend 2 0 9 0 0 0 0 0 0 0 0; service 1; service 11; service 111 => 3
            borrow(0, 1, 2) => 0
            hang(0) => 1
            hold() => 0
            borrow(0, 1, 1) => 1
            wouldFall() => 0
            hang(1) => 1
            wouldFall() => 1
            hang(2) => 1
            wouldFall() => 2
            giveBack(1) => 1
            wouldFall() => 2
            hold() => 2
            wouldFall() => 0
            load board 1; friend 1 1 0 0 0 0 0 0 0 0 0; friend 1 0 0 0 0 0 0 0 0 0 0; friend 1 0 0 0 0 0 0 0 0 0 1; card 1 1; service 109 => 1
            borrow(0, 0, 1) => 0
            borrow(2, 9, 1) => 1
            hang(0) => 3
            place(0, 0, 1, 1) => 100
            place(0, 0, 2, 1) => 129
            wouldFall() => 2
            giveBack(1) => 1
            wouldFall() => 1
            giveBack(0) => 1
            wouldFall() => 0
            """);
    }

    private static void lenders() {
        Edges.edge(28, "`digit`: 0 to 9 || Throws `IllegalArgumentException` if digit is out of range",
            "lenders(-1) | lenders(10) | lenders(" + LEAST + ") | lenders(" + GREATEST + ")" + IAE + "lenders(0) | lenders(9) => 0\n");
        Edges.edge(28, "Finds the friends that have a card of a digit to lend || Returns the sum of 2^friend over them", """
            lenders(5) => 0
            load board 1; friend 1 1 0 0 0 0 0 0 0 0 20; friend 1 1 0 0 0 0 0 0 0 0 1; friend 1 1 0 0 0 0 1 0 0 0 1 => 0
            lenders(0) | lenders(9) => 7
            lenders(5) => 4
            lenders(1) => 0
            borrow(0, 9, 20) => 0
            lenders(9) => 6
            borrow(1, 9, 1) => 1
            lenders(9) => 4
            borrow(2, 9, 1) => 2
            lenders(9) => 0
            giveBack(0) => 0
            lenders(9) => 1
            borrow(0, 9, 19) => 2
            lenders(9) => 1
            """);
    }

    private static void luckAndTurned() {
        Edges.edge(42, "Returns which part of the rows was hung so far || "
            + "Returns (double) (rows that were hung) / (double) (rows that were hung or left out); 0.0 without any", """
            luck() => 0.0
            load board 2; card 1 3; service 1; service 5; service 1 2 => 3
            luck() => 0.0
            hang(0) => 1
            luck() => 1.0
            hang(1) => 1
            luck() => 0.5
            hang(1) => 0
            luck() => 0.3333333333333333
            hang(2) => 1
            luck() => 0.4
            hold() => 0
            luck() => 0.4
            clear() => 1
            luck() => 0.4
            undo() => 5
            undo() => 4
            undo() => 3
            luck() => 0.3333333333333333
            load board 1; service 5 => 1
            luck() => 0.0
            hang(0) => 0
            luck() => 0.0
            """);
        Edges.edge(43, "Returns which part of the cards that hang is turned (ways 2 and 3, as when they were hung) || "
            + "Returns (float) (turned ones) / (float) (cards that hang); 0.0f without any", """
            turned() => 0.0
            load board 1 turn; card 9 1; card 1 back 6 1; card 2 back 9 1; service 6; service 666 => 2
            turned() => 0.0
            hang(0) => 1
            turned() => 1.0
            hang(1) => 2
            turned() => 0.6666667
            setTurn(false) => true
            turned() => 0.6666667
            lose(2, 1) => 1
            turned() => 0.5
            lose(0, 1) => 1
            turned() => 0.0
            lose(1, 1) => 1
            turned() => 0.0
            """);
    }

    private static void write() {
        Edges.edge(44, "for each place its digit, or a full stop (46) without a card", """
            load board 1; card 0 2; card 9 3; service 900; service 99 => 2
            write() => 3
            out => ...
            outputByte(0) | outputByte(2) => 46
            outputByte(3) => -1
            hang(0) => 3
            write() => 3
            out => 900
            outputByte(0) => 57
            outputByte(1) => 48
            hang(1) => 5
            write() => 3
            out => .99
            """);
        Edges.edge(44, "a slash (47) between two rows of a board, a space between two boards || Returns the length of the output", """
            load board 6 6 6; card 8 60; service (888) 6 => 1
            write() => 71
            hang(0) => 54
            write() => 71
            out => 888/888/888/888/888/888 888/888/888/888/888/888 888/888/888/888/888/888
            outputByte(3) | outputByte(67) => 47
            outputByte(23) | outputByte(47) => 32
            outputByte(70) => 56
            outputByte(71) => -1
            load board 1 1 1 => 0
            write() => 11
            out => ... ... ...
            outputByte(3) => 32
            load board 2 => 0
            write() => 7
            out => .../...
            """);
        Edges.edge(44, "Writes the boards to the output, in place of what it had", """
            load board 6 6 6; service (999) 8; service 5 => 2
            write() => 71
            writeService(0) => 31
            outputByte(31) => -1
            writeService(1) => 1
            outputByte(1) => -1
            write() => 71
            load board 1; service 1 => 1
            write() => 3
            outputByte(3) => -1
            """);
    }

    private static void writeService() {
        Edges.edge(45, "`service`: a service || Throws `IndexOutOfBoundsException` if there is no such service", "writeService(0) | writeService(-1)" + IOOBE
            + "outputByte(0) => -1\n" + FULL_TEXT + "writeService(15) => 1\nout => 8\nwriteService(16) | writeService(-1) | writeService("
            + LEAST + ") | writeService(" + GREATEST + ")" + IOOBE + "out => 8\n");
        Edges.edge(45, "its hymns, with a space between two || Returns the length of the output", """
            load board 1; service 7; service (999) 8; service 9 99 10 100 101 110 1 => 3
            writeService(0) => 1
            out => 7
            writeService(1) => 31
            out => 999 999 999 999 999 999 999 999
            outputByte(3) => 32
            outputByte(30) => 57
            outputByte(31) => -1
            writeService(2) => 21
            out => 9 99 10 100 101 110 1
            """);
    }

    private static void outputByte() {
        Edges.edge(46, "Returns a byte of the output || `index`: the index, from 0 || Returns the byte; NONE if there is none", "outputByte(0) | outputByte(-1) | outputByte(1) | outputByte(" + GREATEST
            + ") | outputByte(" + LEAST + ") => -1\nload board 6 6 6 => 0\nwrite() => 71\noutputByte(0) | outputByte(70) => 46\n"
            + "outputByte(-1) | outputByte(71) | outputByte(72) | outputByte(80) | outputByte(" + GREATEST + ") | outputByte(" + LEAST
            + ") => -1\n");
    }
}
