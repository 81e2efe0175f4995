/** The boundary cases that the sections 1 to 3 and 5 of the document's terms name. */
final class SectionEdges {
    private static final String IOOBE = " => throws.IndexOutOfBoundsException\n";
    private static final String IAE = " => throws.IllegalArgumentException\n";

    private SectionEdges() { }

    static void all() {
        constants();
        ownCards();
        friends();
        borrowedCards();
        ways();
        loans();
        boards();
        services();
        split();
        hangingRows();
        hangingCards();
        work();
        comingDown();
        takingBack();
        orderOfErrors();
        fullObject();
    }

    private static void constants() {
        Script.due(Edges.name(30, "`WRONG = -3`: It cannot be done as things are"), HymnBoards.WRONG, -3);
        Script.due(Edges.name(2, "`FULL = -2`: A limit would be exceeded"), HymnBoards.FULL, -2);
        Script.due(Edges.name(5, "`NONE = -1`: There is no such thing"), HymnBoards.NONE, -1);
    }

    private static void ownCards() {
        Edges.edge(36, "There are at most 12 own cards", Edges.counted(12, "addCard(1, 2, 3) => #") + """
            size(4) => 12
            addCard(1, 2, 3) | addCard(9, -1, 0) => -2
            size(4) => 12
            card(11, 2) => 3
            card(12, 2) => throws.IndexOutOfBoundsException
            """);
        Edges.edge(36, "each a sort with a FRONT (a digit 0 to 9), perhaps a BACK (a digit), and a COUNT (0 to 60)", """
            addCard(0, 0, 0) => 0
            addCard(9, 9, 60) => 1
            addCard(0, -1, 60) => 2
            card(0, 0) | card(0, 1) | card(0, 2) => 0
            card(1, 0) | card(1, 1) => 9
            card(1, 2) | card(2, 2) => 60
            card(2, 0) => 0
            card(2, 1) => -1
            """ + "addCard(-1, 0, 0) | addCard(10, 0, 0)" + IAE + "addCard(0, -2, 0) | addCard(0, 10, 0)" + IAE
            + "addCard(0, 0, -1) | addCard(0, 0, 61)" + IAE + "size(4) => 3\n");
        Edges.edge(36, "so many of them there are", """
            load board 1; card 5 0; card 6 1; service 5; service 66 => 2
            most(5) | free(5) => 0
            most(6) | free(6) => 1
            canShow(5) | canShow(66) | canShow(56) => false
            canShow(6) => true
            hang(0) | hang(1) => 0
            size(13) => 2
            buy(0, 1) => 1
            hang(0) => 1
            """);
        Edges.edge(7, "Their numbers are 0, 1 and so on", """
            load board 1; card 7 1; card 8 2 => 0
            card(0, 0) => 7
            card(1, 0) => 8
            addCard(9, -1, 0) => 2
            card(2, 0) => 9
            """ + "card(3, 0) | card(-1, 0)" + IOOBE);
    }

    private static void friends() {
        String friend = ";friend 9 20 0 0 0 0 0 0 0 0 20";
        Edges.edge(9, "There are at most 3 friends", "load board 4" + friend.repeat(3) + " => 0\n" + """
            size(5) => 3
            lends(0, 0) | lends(2, 9) => 20
            """ + "lends(3, 0) | lends(-1, 0) | card(130, 0) | borrow(3, 0, 1)" + IOOBE
            + "load board 4" + friend.repeat(4) + " => -201\nsize(5) => 3\n");
        Edges.edge(32, "A friend has a TERM (1 to 9) and, of each digit, some cards to lend (0 to 20)", """
            load board 4; friend 1 20 0 0 0 0 0 0 0 0 1; friend 9 0 1 2 3 4 5 6 7 8 20 => 0
            lends(0, 0) => 20
            lends(0, 1) | lends(0, 8) => 0
            lends(0, 9) => 1
            lends(1, 0) => 0
            lends(1, 1) => 1
            lends(1, 8) => 8
            lends(1, 9) => 20
            borrow(0, 0, 20) => 0
            borrow(1, 9, 20) => 1
            loan(0, 3) => 1
            loan(1, 3) => 9
            """);
    }

    private static void borrowedCards() {
        Edges.edge(7, "The cards of the digit D that were borrowed from the friend F have the number 100 + 10 * F + D", """
            load board 4; friend 1 9 9 9 9 9 9 9 9 9 9; friend 1 9 9 9 9 9 9 9 9 9 9; friend 1 9 9 9 9 9 9 9 9 9 9 => 0
            borrow(0, 0, 1) => 0
            borrow(0, 9, 2) => 1
            borrow(1, 0, 3) => 2
            borrow(2, 9, 4) => 3
            card(100, 2) => 1
            card(109, 2) => 2
            card(110, 2) => 3
            card(129, 2) => 4
            card(101, 2) | card(108, 2) | card(111, 2) | card(119, 2) | card(120, 2) | card(128, 2) => 0
            """ + "card(99, 2) | card(130, 2)" + IOOBE);
        Edges.edge(7, "their FRONT is D, they have no BACK, and their COUNT is how many of them are borrowed", """
            load board 4; friend 1 0 0 0 0 0 0 0 0 0 20 => 0
            card(100, 0) | card(100, 2) | card(109, 2) => 0
            card(109, 0) => 9
            card(100, 1) | card(109, 1) => -1
            borrow(0, 9, 1) => 0
            borrow(0, 9, 19) => 1
            card(109, 2) => 20
            giveBack(0) => 0
            card(109, 2) => 19
            giveBack(0) => 0
            card(109, 2) => 0
            """);
    }

    private static void ways() {
        String cards = "load board 1 turn; card 6 back 6 1; card 9 back 6 1; card 6 back 9 1; card 9 back 9 1;"
            + "card 1 back 6 1; card 1 back 9 1; card 6 1; card 9 1; card 8 back 8 1; friend 1 0 0 0 0 0 0 0 0 0 0 => 0\n";
        Edges.edge(8, "A card can show a digit in the first of these ways that applies: 0 it is its FRONT; 1 it is its BACK", cards + """
            way(0, 6) | way(1, 9) | way(2, 6) | way(3, 9) | way(4, 1) | way(6, 6) | way(7, 9) | way(8, 8) => 0
            way(1, 6) | way(2, 9) | way(4, 6) | way(5, 9) => 1
            way(0, 9) | way(3, 6) | way(6, 9) | way(7, 6) => 2
            way(4, 9) | way(5, 6) => 3
            way(8, 6) | way(8, 9) | way(0, 0) | way(6, 3) | way(4, 0) | way(5, 2) => -1
            way(106, 6) | way(109, 9) | way(100, 0) => 0
            way(106, 9) | way(109, 6) => 2
            way(105, 6) | way(100, 6) | way(100, 9) | way(108, 9) => -1
            """);
        Edges.edge(8, "2 it is a 6 or a 9, TURN is on, and its FRONT is the other one of both", cards + """
            setTurn(false) => true
            way(0, 6) | way(1, 9) | way(7, 9) | way(106, 6) => 0
            way(1, 6) | way(2, 9) | way(4, 6) | way(5, 9) => 1
            way(0, 9) | way(3, 6) | way(6, 9) | way(7, 6) | way(4, 9) | way(5, 6) | way(106, 9) | way(109, 6) => -1
            """);
        Edges.edge(8, "3 the same of its BACK", """
            load board 1 turn; card 0 back 9 1; card 5 back 6 1 => 0
            way(0, 6) | way(1, 9) => 3
            way(0, 0) | way(1, 5) => 0
            """);
    }

    private static void loans() {
        Edges.edge(32, "There are at most 12 loans", "load board 1; friend 9 20 0 0 0 0 0 0 0 0 0 => 0\n"
            + Edges.counted(12, "borrow(0, 0, 1) => #") + """
            size(7) => 12
            borrow(0, 0, 1) => -2
            size(7) => 12
            lends(0, 0) => 8
            loan(11, 2) => 1
            """ + "loan(12, 2)" + IOOBE + "giveBack(11) => 0\nsize(7) => 11\nborrow(0, 0, 8) => 11\nloan(11, 2) => 8\n");
        Edges.edge(32, "A loan has a friend, a digit, how many cards it is of, and the services that are left until they are returned; "
            + "when a loan is made, these are the TERM of the friend", """
            load board 1; card 1 1; friend 1 1 0 0 0 0 0 0 0 0 0; friend 9 1 0 0 0 0 0 0 0 0 0; service 1 => 1
            hang(0) => 1
            borrow(1, 0, 1) => 0
            loan(0, 3) => 9
            hold() => 0
            loan(0, 3) => 8
            borrow(0, 0, 1) => 1
            loan(0, 3) => 8
            loan(1, 3) => 1
            giveBack(0) => 0
            borrow(1, 0, 1) => 1
            loan(1, 3) => 9
            """);
    }

    private static void boards() {
        Edges.edge(11, "There are 1 to 3 boards, each with 1 to 6 rows", """
            load board 1 => 0
            size(0) | size(1) | rows(0) => 1
            hung(0, 0) => -1
            """ + "rows(1) | rows(-1) | hung(0, 1) | hung(1, 0)" + IOOBE + """
            load board 6 6 6 => 0
            size(0) => 3
            size(1) => 18
            rows(0) | rows(1) | rows(2) => 6
            hung(2, 5) | hung(0, 5) => -1
            """ + "rows(3) | hung(3, 0) | hung(2, 6) | hung(0, 6) | hung(0, -1) | hung(-1, 0)" + IOOBE + """
            load board 6 1 2 => 0
            size(1) => 9
            rows(1) => 1
            """ + "hung(1, 1) | hung(2, 2)" + IOOBE);
        Edges.edge(14, "A row has 3 columns, from the left", """
            load board 1; card 1 1; card 2 1; card 3 1; service 123 => 1
            hang(0) => 3
            place(0, 0, 0, 0) => 1
            place(0, 0, 1, 0) => 2
            place(0, 0, 2, 0) => 3
            """ + "place(0, 0, 3, 0) | place(0, 0, -1, 0)" + IAE);
        Edges.edge(29, "it has no zeros ahead", """
            load board 6; card 0 3; card 1 3; card 9 6; service 1 9 10 99 100 999 => 1
            hang(0) => 12
            write() => 23
            out => ..1/..9/.10/.99/100/999
            place(0, 0, 0, 0) | place(0, 0, 1, 0) | place(0, 1, 1, 0) | place(0, 2, 0, 0) | place(0, 3, 0, 0) => -1
            hung(0, 0) => 1
            hung(0, 5) => 999
            """);
        Edges.edge(29, "A hymn (1 to 999) that hangs in a row has its last digit in column 2, the one ahead of it in column 1, and so on", """
            load board 3; card 7 1; card 2 2; card 5 2; service 7 25 52; service 572 => 2
            hang(0) => 5
            place(0, 0, 2, 0) => 7
            place(0, 1, 1, 0) => 2
            place(0, 1, 2, 0) => 5
            place(0, 2, 1, 0) => 5
            place(0, 2, 2, 0) => 2
            place(0, 2, 0, 0) => -1
            hang(1) => 8
            place(0, 0, 0, 0) => 5
            place(0, 0, 1, 0) => 7
            place(0, 0, 2, 0) => 2
            """);
    }

    private static void services() {
        Edges.edge(40, "A service is a list of 1 to 8 hymns", "addService(5) => 0\nhymns(0) => 1\n"
            + "addHymn(0, 1) => 2\naddHymn(0, 2) => 3\naddHymn(0, 3) => 4\naddHymn(0, 4) => 5\naddHymn(0, 5) => 6\n"
            + "addHymn(0, 6) => 7\naddHymn(0, 999) => 8\naddHymn(0, 1) | addHymn(0, 999) => -2\n"
            + "hymns(0) => 8\nhymn(0, 7) => 999\nhymn(0, 8) => -1\n");
        Edges.edge(41, "there are at most 16 services", Edges.counted(16, "addService(7) => #")
            + "addService(7) => -2\nsize(6) => 16\nhymns(15) => 1\nhymns(16)" + IOOBE);
    }

    private static void split() {
        Edges.edge(29, "If SPLIT is off, each board is to show the list from its first hymn on, a hymn in a row, as far as it has rows", """
            load board 1 6 2; card 1 60; card 2 9; card 3 9; service 1 2 3 1 1 1 2 3; service 2 => 2
            hang(0) => 9
            write() => 35
            out => ..1 ..1/..2/..3/..1/..1/..1 ..1/..2
            size(12) => 9
            size(13) => 0
            hang(1) => 12
            write() => 35
            out => ..2 ..2/.../.../.../.../... ..2/...
            size(12) => 12
            size(13) => 0
            """);
        Edges.edge(38, "if it is on, each board goes on behind the hymns that the board ahead is to show (as many as it has rows)", """
            load board 1 6 2 split; card 1 60; card 2 9; card 3 9; service 1 2 3 1 1 1 2 3; service 2; service 1 2 3 1 1 1 2 => 3
            hang(0) => 8
            write() => 35
            out => ..1 ..2/..3/..1/..1/..1/..2 ..3/...
            size(12) => 8
            size(13) => 0
            hang(1) => 9
            write() => 35
            out => ..2 .../.../.../.../.../... .../...
            hang(2) => 8
            write() => 35
            out => ..1 ..2/..3/..1/..1/..1/..2 .../...
            load board 2 1 split; card 1 2; service 5 5 1 => 1
            hang(0) => 1
            hung(1, 0) => 1
            size(13) => 2
            """);
        Edges.edge(15, "Rows without a hymn that is to be shown there are blank", """
            load board 3; card 1 3; service 1 => 1
            hang(0) => 1
            hung(0, 0) => 1
            hung(0, 1) | hung(0, 2) | place(0, 1, 2, 0) | place(0, 2, 2, 1) | place(0, 1, 2, 2) => -1
            size(13) => 0
            would(0, 1) => 0
            outAt(0) => -1
            """);
    }

    private static void hangingRows() {
        Edges.edge(29, "When a service is hung, all cards that hang come down", """
            load board 3; card 1 3; service 1 1 1; service 1; service 2 => 3
            hang(0) => 3
            card(0, 3) => 3
            hang(1) => 2
            card(0, 3) | size(9) => 1
            hung(0, 1) | hung(0, 2) | place(0, 2, 2, 0) => -1
            hang(2) => 1
            card(0, 3) | size(9) => 0
            hung(0, 0) => -1
            hang(0) => 3
            """);
        Edges.edge(29, "and the rows are gone through by boards and rows", """
            load board 1 2; card 1 back 2 1; card 1 1; service 1 2; service 2 1; service 11 2 => 3
            hang(0) => 2
            write() => 11
            out => ..1 ..1/...
            hang(1) => 4
            write() => 11
            out => ..2 .../..1
            size(13) => 2
            hang(2) => 4
            write() => 11
            out => .11 .../...
            """);
        Edges.edge(29, "a row is hung if all its digits, together with the digits of all rows that were hung ahead of it, "
            + "can be shown at the same time by different cards of those that there are", """
            load board 2; card 1 2; card 2 1; friend 1 0 1 0 0 0 0 0 0 0 0; service 12 11 => 1
            hang(0) => 2
            hung(0, 0) => 12
            hung(0, 1) => -1
            borrow(0, 1, 1) => 0
            hang(0) => 2
            hung(0, 1) => 11
            size(9) => 4
            """);
        Edges.edge(29, "by different cards of those that there are (own and borrowed ones)", """
            load board 1; card 1 back 2 1; friend 1 0 0 1 0 0 0 0 0 0 0; service 12; service 11 => 2
            hang(0) | hang(1) => 0
            borrow(0, 2, 1) => 0
            hang(1) => 0
            hang(0) => 2
            place(0, 0, 1, 1) => 0
            place(0, 0, 2, 1) => 102
            """);
        Edges.edge(29, "otherwise it is left out and is blank (those behind it are gone through still)", """
            load board 3; card 1 1; service 31 1 1; service 131 1 => 2
            hang(0) => 1
            write() => 11
            out => .../..1/...
            hang(1) => 0
            write() => 11
            out => .../..1/...
            load board 3 1; card 1 1; card 2 1; service 13 1 2; service 31 31 31 => 2
            hang(0) => 2
            write() => 15
            out => .../..1/..2 ...
            hung(0, 0) | hung(1, 0) => -1
            size(12) | size(13) => 2
            hang(1) => 2
            size(12) => 2
            size(13) => 6
            """);
    }

    private static void hangingCards() {
        Edges.edge(29, "Then each place of the rows that are hung, by places, gets the card with the lowest number "
            + "with which all places behind it can still be shown by different cards that are left", """
            load board 1 1 split; card 1 back 2 1; card 1 1; card 2 0; service 1 2; service 1 1; service 1 => 3
            hang(0) => 2
            place(0, 0, 2, 1) => 1
            place(1, 0, 2, 1) => 0
            hang(1) => 2
            place(0, 0, 2, 1) => 0
            place(1, 0, 2, 1) => 1
            hang(2) => 1
            place(0, 0, 2, 1) => 0
            buy(2, 1) => 1
            hang(0) => 1
            place(0, 0, 2, 1) => 0
            place(1, 0, 2, 1) => 2
            """);
        Edges.edge(29, "gets the card with the lowest number with which all places behind it can still be shown", """
            load board 5; card 0 back 1 1;card 1 back 2 1;card 2 back 3 1;card 3 back 4 1;card 4 back 5 1;card 5 back 6 1 => 0
            addCard(6, 7, 1) => 6
            addCard(7, 8, 1) => 7
            addCard(8, 9, 1) => 8
            addCard(9, 0, 1) => 9
            addService(10) => 0
            addHymn(0, 234) => 2
            addHymn(0, 567) => 3
            addHymn(0, 89) => 4
            addHymn(0, 5) => 5
            would(0, 0) => 4
            would(0, 5) => 10
            outAt(0) => 4
            missing(0) => 1
            bestBuy(0) => 0
            hang(0) => 10
            place(0, 0, 1, 1) => 0
            place(0, 0, 2, 1) => 9
            place(0, 1, 0, 1) => 1
            place(0, 3, 2, 1) => 8
            addCard(6, -1, 1) => 10
            would(0, 0) => 5
            hang(0) => 1
            place(0, 0, 1, 1) => 0
            place(0, 2, 1, 1) => 10
            place(0, 2, 2, 1) => 6
            place(0, 4, 2, 1) => 5
            """);
        Edges.edge(29, "Places are the columns of all rows of all boards, in this order: by boards, by rows, by columns || "
            + "by different cards that are left", """
            load board 1; card 5 1; card 5 1; card 5 1; friend 1 0 0 0 0 0 1 0 0 0 0; friend 1 0 0 0 0 0 1 0 0 0 0; service 555 => 1
            borrow(1, 5, 1) => 0
            borrow(0, 5, 1) => 1
            hang(0) => 3
            place(0, 0, 0, 1) => 0
            place(0, 0, 1, 1) => 1
            place(0, 0, 2, 1) => 2
            lose(1, 1) => 1
            lose(2, 1) => 1
            hang(0) => 2
            place(0, 0, 0, 1) => 0
            place(0, 0, 1, 1) => 105
            place(0, 0, 2, 1) => 115
            """);
    }

    private static void work() {
        Edges.edge(29, "The WORK of hanging is, for each place of the boards whose digit is another one than ahead of hanging "
            + "(or none ahead or behind), 1 for a digit that was there and 1 for one that is there", """
            load board 1; card 1 1; card 2 2; service 1; service 2; service 22; service 3; service 21 => 5
            hang(0) => 1
            hang(1) => 2
            hang(2) => 1
            hang(4) => 2
            hang(3) => 2
            hang(3) => 0
            hang(4) => 2
            size(11) => 10
            """);
        Edges.edge(29, "a card that shows the same digit at its place is no work, whichever one it is", """
            load board 1 turn; card 6 1; card 9 1; service 6 => 1
            hang(0) => 1
            hang(0) => 0
            place(0, 0, 2, 1) => 0
            lose(0, 1) => 1
            hang(0) => 1
            place(0, 0, 2, 1) => 1
            buy(0, 1) => 1
            would(0, 2) => 0
            hang(0) => 0
            place(0, 0, 2, 1) => 0
            size(11) => 2
            """);
    }

    private static void comingDown() {
        Edges.edge(35, "If the COUNT of a card becomes less than how many of it hang, as many of it come down as are too many", """
            load board 2; card 1 5; service 11 11 => 1
            hang(0) => 4
            lose(0, 1) => 0
            size(9) => 4
            lose(0, 1) => 1
            size(9) => 3
            lose(0, 2) => 2
            size(9) => 1
            lose(0, 1) => 1
            size(9) | card(0, 3) | card(0, 2) => 0
            """);
        Edges.edge(35, "those at the last places first", """
            load board 1 2; card 1 6; card 2 2; service 121 11 => 1
            hang(0) => 8
            write() => 11
            out => 121 121/.11
            lose(0, 1) => 1
            write() => 11
            out => 121 121/.1.
            lose(0, 2) => 2
            write() => 11
            out => 121 12./...
            lose(1, 1) => 1
            write() => 11
            out => 121 1../...
            lose(0, 3) => 3
            write() => 11
            out => .2. .../...
            size(9) => 1
            size(11) => 8
            """);
        Edges.edge(35, "This is no work", """
            load board 1; card 1 3; service 111 => 1
            hang(0) => 3
            lose(0, 3) => 3
            size(11) => 3
            buy(0, 3) => 3
            hang(0) => 3
            size(11) => 6
            """);
    }

    private static void takingBack() {
        Edges.edge(47, "The methods that are called actions can be taken back", """
            load board 1; card 1 3; friend 1 1 0 0 0 0 0 0 0 0 0; service 1 => 1
            append(0x20) => 1
            write() => 3
            saveSnapshot(0) => 0
            would(0, 0) => 1
            size(14) => 0
            undo() => -1
            hang(0) => 1
            hold() => 0
            clear() => 1
            borrow(0, 0, 1) => 0
            giveBack(0) => 0
            size(14) => 5
            buy(0, 1) => 4
            lose(0, 1) => 0
            addCard(1, 1, 1) => 1
            size(14) => 8
            undo() => 7
            setTurn(true) => false
            size(14) => 8
            undo() => 7
            setSplit(true) => false
            size(14) => 8
            undo() => 7
            setHymn(0, 0, 2) => 1
            size(14) => 8
            undo() => 7
            addHymn(0, 2) => 2
            size(14) => 8
            undo() => 7
            addService(2) => 1
            size(14) => 8
            """);
        Edges.edge(47, "the latest 8 of them", "load board 1; card 1 0 => 0\n"
            + "buy(0, 1) => 1\nsize(14) => 1\nbuy(0, 1) => 2\nbuy(0, 1) => 3\nbuy(0, 1) => 4\nbuy(0, 1) => 5\n"
            + "buy(0, 1) => 6\nbuy(0, 1) => 7\nsize(14) => 7\nbuy(0, 1) => 8\nsize(14) => 8\nbuy(0, 1) => 9\nsize(14) => 8\n"
            + "undo() => 7\ncard(0, 2) => 8\nundo() => 6\ncard(0, 2) => 7\nundo() => 5\ncard(0, 2) => 6\nundo() => 4\n"
            + "card(0, 2) => 5\nundo() => 3\ncard(0, 2) => 4\nundo() => 2\ncard(0, 2) => 3\nundo() => 1\ncard(0, 2) => 2\n"
            + "undo() => 0\ncard(0, 2) => 1\nsize(14) => 0\nundo() | undo() => -1\ncard(0, 2) => 1\nsize(14) => 0\n"
            + "buy(0, 1) => 2\nsize(14) => 1\nundo() => 0\ncard(0, 2) => 1\nundo() => -1\n");
        StringBuilder twenty = new StringBuilder("load board 1; card 1 0 => 0\n");
        for (int count = 1; count <= 20; count++) {
            twenty.append("buy(0, 1) => ").append(count).append("\nsize(14) => ").append(Math.min(count, 8)).append('\n');
        }
        for (int left = 7; left >= 0; left--) {
            twenty.append("undo() => ").append(left).append("\ncard(0, 2) => ").append(12 + left).append('\n');
        }
        Edges.edge(47, "the latest 8 of them", twenty + "undo() => -1\ncard(0, 2) => 12\n");
        Edges.edge(47, "that did not return WRONG or FULL", """
            load board 1; card 1 60; friend 1 0 0 0 0 0 0 0 0 0 0; service 1 => 1
            setTurn(true) => false
            buy(0, 1) => -2
            borrow(0, 0, 1) => -3
            hold() => -3
            setHymn(0, 1, 1) => -3
            lose(0, 60) => 0
            lose(0, 1) => -3
            size(14) => 2
            undo() => 1
            undo() => 0
            size(2) => 0
            undo() => -1
            """);
        Edges.edge(47, "An action counts also if it changes nothing", """
            load board 1; card 1 1; service 1; service 2 => 2
            clear() => 0
            size(14) => 1
            setTurn(false) => false
            size(14) => 2
            setSplit(false) => false
            size(14) => 3
            setHymn(0, 0, 1) => 1
            size(14) => 4
            hang(1) => 0
            size(14) => 5
            clear() => 0
            clear() => 0
            size(14) => 7
            undo() => 6
            undo() => 5
            size(8) => 1
            undo() => 4
            undo() => 3
            undo() => 2
            undo() => 1
            undo() => 0
            undo() => -1
            """);
    }

    private static void orderOfErrors() {
        String setup = "load board 1; card 1 60; friend 1 20 0 0 0 0 0 0 0 0 0; service (1) 8 => 1\n";
        String sentence = "If several exceptions apply, the one that is named first is thrown";
        Edges.edge(7, sentence, setup + "card(1, 4) | card(-1, -1) | card(110, 4)" + IOOBE);
        Edges.edge(8, sentence, setup + "way(1, 10) | way(-1, -1) | way(110, 10)" + IOOBE);
        Edges.edge(9, sentence, setup + "lends(1, 10) | lends(-1, -1)" + IOOBE);
        Edges.edge(10, sentence, setup + "loan(0, 4) | loan(-1, -1)" + IOOBE);
        Edges.edge(14, sentence, setup + "place(1, 0, 3, 3) | place(0, 1, 3, 0) | place(0, -1, 0, 3)" + IOOBE);
        Edges.edge(20, sentence, setup + "would(1, 7) | would(-1, -1)" + IOOBE);
        Edges.edge(32, sentence, setup + "borrow(1, 10, 1) | borrow(1, 0, 0) | borrow(-1, -1, 61)" + IOOBE);
        Edges.edge(34, sentence, setup + "buy(1, 0) | buy(-1, 61)" + IOOBE);
        Edges.edge(35, sentence, setup + "lose(1, 0) | lose(-1, 61)" + IOOBE);
        Edges.edge(39, sentence, setup + "setHymn(1, 0, 0) | setHymn(-1, 0, 1000)" + IOOBE);
        Edges.edge(40, sentence, setup + "addHymn(1, 0) | addHymn(-1, 1000)" + IOOBE);
        String ahead = "exceptions come before errors";
        Edges.edge(32, ahead, setup + "borrow(1, 1, 1) | borrow(1, 1, 60)" + IOOBE + "borrow(0, 1, 61) | borrow(0, 10, 60)" + IAE);
        Edges.edge(32, ahead, "load board 1; friend 1 20 0 0 0 0 0 0 0 0 0 => 0\n"
            + Edges.counted(12, "borrow(0, 0, 1) => #") + "borrow(1, 0, 1)" + IOOBE
            + "borrow(0, 0, 0) | borrow(0, 0, 61) | borrow(0, -1, 1)" + IAE + "borrow(0, 0, 1) => -2\n");
        Edges.edge(34, ahead, setup + "buy(1, 60)" + IOOBE + "buy(0, 61) | buy(0, 0)" + IAE + "buy(0, 1) => -2\n");
        Edges.edge(35, ahead, setup + "lose(0, 60) => 0\nlose(1, 1)" + IOOBE + "lose(0, 61) | lose(0, 0)" + IAE
            + "lose(0, 1) => -3\n");
        Edges.edge(36, ahead, Edges.counted(12, "addCard(0, 0, 0) => #")
            + "addCard(10, 0, 0) | addCard(-1, 0, 0) | addCard(0, 10, 0) | addCard(0, -2, 0) | addCard(0, 0, 61)" + IAE
            + "addCard(0, 0, -1)" + IAE + "addCard(0, 0, 0) => -2\n");
        Edges.edge(39, ahead, setup + "setHymn(1, 8, 1) | setHymn(1, 8, 0)" + IOOBE + "setHymn(0, 8, 0) | setHymn(0, -1, 1000)"
            + IAE + "setHymn(0, 8, 1) | setHymn(0, -1, 1) => -3\n");
        Edges.edge(40, ahead, setup + "addHymn(1, 1)" + IOOBE + "addHymn(0, 0) | addHymn(0, 1000)" + IAE + "addHymn(0, 1) => -2\n");
        Edges.edge(41, ahead, Edges.counted(16, "addService(1) => #") + "addService(0) | addService(1000)" + IAE
            + "addService(1) => -2\n");
        Edges.edge(32, "of several errors the one that is named first is returned",
            "load board 1; friend 1 20 0 0 0 0 0 0 0 0 0 => 0\n" + Edges.counted(12, "borrow(0, 0, 1) => #")
            + "borrow(0, 0, 9) | borrow(0, 1, 1) | borrow(0, 0, 60) => -3\nborrow(0, 0, 8) => -2\n");
    }

    /** All limits at once, and as many calls as an object is used for. */
    private static void fullObject() {
        StringBuilder calls = new StringBuilder("load board 6 6 6; card 8 60; service (888) 8; service (999) 8 => 2\n");
        for (int time = 0; time < 249; time++) {
            calls.append(time % 2 == 0 ? "hang(0) => 54\n" : "hang(1) => 54\n");
            calls.append(time % 2 == 0 ? "size(9) => 54\n" : "size(9) => 0\n");
        }
        calls.append("size(11) => ").append(249 * 54).append("\nsize(12) => ").append(125 * 18).append("\nsize(13) => ")
            .append(124 * 18).append("\nundo() => 7\nsize(12) => ").append(124 * 18).append('\n');
        Edges.edge(29, "An object is used for at most 512 calls after it has been made", calls.toString());
    }
}
