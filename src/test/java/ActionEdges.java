/** The boundary cases that the promises 29 to 41 and 47 to 49 name: actions, taking them back, snapshots. */
final class ActionEdges {
    private static final String IOOBE = " => throws.IndexOutOfBoundsException\n";
    private static final String IAE = " => throws.IllegalArgumentException\n";
    private static final String LEAST = "-2147483648";
    private static final String GREATEST = "2147483647";
    private static final String LENDING = "load board 1; card 1 1; friend 1 20 0 0 0 0 0 0 0 0 1; service 1 => 1\n";

    private ActionEdges() { }

    static void all() {
        hang();
        hold();
        clear();
        borrow();
        giveBack();
        buy();
        lose();
        addCard();
        switches();
        setHymn();
        addHymn();
        addService();
        undo();
        snapshots();
    }

    private static void hang() {
        Edges.edge(29, "`service`: a service || Throws `IndexOutOfBoundsException` if there is no such service", "hang(0) | hang(-1) | hang(" + GREATEST
            + ") | hang(" + LEAST + ")" + IOOBE + "addService(5) => 0\nhang(0) => 0\nhang(1) | hang(-1)" + IOOBE
            + "load board 1; card 1 1" + ";service 1".repeat(16) + " => 16\nhang(15) => 1\nhang(16)" + IOOBE + "size(8) => 15\n");
        Edges.edge(29, "Returns the WORK", """
            load board 6 6 6; card 1 54; card 2 54; service (111) 6; service (222) 6; service 1 => 3
            hang(0) => 54
            hang(0) => 0
            hang(1) => 108
            hang(2) => 57
            clear() => 3
            hang(2) => 3
            load board 1; card 1 1; service 10 => 1
            hang(0) => 0
            size(13) => 1
            """);
    }

    private static void hold() {
        Edges.edge(30, "Holds the service that was hung last (an action; again and again, too)", """
            load board 1; card 1 1; friend 2 0 0 0 0 0 0 0 0 0 1; service 2 => 1
            borrow(0, 9, 1) => 0
            hang(0) => 0
            hold() => 0
            size(10) => 1
            size(7) => 1
            hold() => 0
            size(10) => 2
            size(7) => 0
            hold() => 0
            size(10) => 3
            size(8) => 0
            """);
        Edges.edge(30, "WRONG if no service hangs (none was hung, or the boards were cleared since)", """
            hold() => -3
            addService(5) => 0
            hold() => -3
            hang(0) => 0
            hold() => 0
            clear() => 0
            hold() => -3
            hang(0) => 0
            hold() => 0
            undo() => 5
            undo() => 4
            hold() => -3
            undo() => 3
            hold() => 0
            load board 1 => 0
            hold() => -3
            size(14) => 0
            size(10) => 0
            """);
        Edges.edge(30, "(an action; again and again, too): each loan has 1 service less that is left; loans with 0 then end, and their cards go back to the friend", """
            load board 1; friend 1 0 3 0 0 0 0 0 0 0 0; friend 9 0 3 0 0 0 0 0 0 0 0; service 111 => 1
            borrow(1, 1, 2) => 0
            borrow(0, 1, 1) => 1
            hang(0) => 3
            hold() => 1
            size(7) => 1
            loan(0, 0) => 1
            loan(0, 3) => 8
            lends(0, 1) => 3
            lends(1, 1) => 1
            place(0, 0, 0, 1) => -1
            place(0, 0, 1, 1) => 111
            hold() | hold() | hold() | hold() | hold() | hold() | hold() => 0
            loan(0, 3) => 1
            size(9) => 2
            hold() => 2
            size(7) | size(9) => 0
            lends(1, 1) => 3
            size(10) => 9
            hold() => 0
            """);
        Edges.edge(30, "Returns how many cards came down by that", """
            load board 1; friend 1 0 9 0 0 0 0 0 0 0 0; friend 2 0 9 0 0 0 0 0 0 0 0; service 11 => 1
            borrow(0, 1, 2) => 0
            borrow(0, 1, 2) => 1
            borrow(0, 1, 3) => 2
            hang(0) => 2
            borrow(1, 1, 1) => 3
            hold() => 2
            size(7) => 1
            borrow(0, 1, 1) => 1
            hang(0) => 2
            borrow(0, 1, 1) => 2
            hold() => 2
            size(7) => 0
            """);
    }

    private static void clear() {
        Edges.edge(31, "Clears the boards (an action): no service hangs then; this is no work", """
            clear() => 0
            load board 6 6 6; card 1 54; service (111) 6; service 2 => 2
            clear() => 0
            hang(0) => 54
            clear() => 54
            size(8) | hung(0, 0) | hung(2, 5) | place(2, 5, 2, 0) => -1
            size(9) | holes() | card(0, 3) | wouldFall() => 0
            size(11) => 54
            size(12) => 18
            free(1) => 54
            hold() => -3
            clear() => 0
            hang(1) => 0
            size(8) => 1
            clear() => 0
            size(8) => -1
            size(14) => 6
            """);
        Edges.edge(31, "Returns how many cards hung", """
            load board 1; card 1 3; service 111 => 1
            hang(0) => 3
            lose(0, 1) => 1
            clear() => 2
            hang(0) => 0
            clear() => 0
            """);
    }

    private static void borrow() {
        Edges.edge(32, "`friend`: a friend || Throws `IndexOutOfBoundsException` if there is no such friend", "borrow(0, 0, 1) | borrow(-1, 0, 1)" + IOOBE
            + LENDING + "borrow(1, 0, 1) | borrow(-1, 0, 1) | borrow(" + GREATEST + ", 0, 1) | borrow(" + LEAST + ", 0, 1)" + IOOBE
            + "borrow(0, 0, 1) => 0\n");
        Edges.edge(32, "`digit`: 0 to 9 || `many`: 1 to 60 || Throws `IllegalArgumentException` if digit or many is out of range", LENDING
            + "borrow(0, -1, 1) | borrow(0, 10, 1) | borrow(0, " + LEAST + ", 1) | borrow(0, " + GREATEST + ", 1)" + IAE
            + "borrow(0, 0, 0) | borrow(0, 0, 61) | borrow(0, 0, -1) | borrow(0, 0, " + LEAST + ") | borrow(0, 0, " + GREATEST + ")"
            + IAE + "borrow(0, 0, 60) => -3\nborrow(0, 0, 1) => 0\nborrow(0, 9, 1) => 1\n");
        Edges.edge(32, "WRONG if the friend has not so many to lend", LENDING + """
            borrow(0, 0, 21) | borrow(0, 9, 2) | borrow(0, 1, 1) | borrow(0, 0, 60) => -3
            size(7) | size(14) => 0
            borrow(0, 0, 19) => 0
            borrow(0, 0, 2) => -3
            borrow(0, 0, 1) => 1
            borrow(0, 0, 1) => -3
            lends(0, 0) => 0
            giveBack(1) => 0
            borrow(0, 0, 1) => 1
            """);
        Edges.edge(32, "FULL if there are 12 loans", LENDING + Edges.counted(12, "borrow(0, 0, 1) => #") + """
            borrow(0, 0, 1) | borrow(0, 9, 1) | borrow(0, 0, 8) => -2
            size(14) => 8
            lends(0, 0) => 8
            hang(0) => 1
            hold() => 0
            size(7) => 0
            borrow(0, 0, 20) => 0
            """);
        Edges.edge(32, "Returns the number of the loan", LENDING + """
            borrow(0, 0, 20) => 0
            card(100, 2) => 20
            loan(0, 2) => 20
            borrow(0, 9, 1) => 1
            loan(1, 1) => 9
            """);
    }

    private static void giveBack() {
        Edges.edge(33, "`loan`: a loan || Throws `IndexOutOfBoundsException` if there is no such loan", "giveBack(0) | giveBack(-1)" + IOOBE + LENDING
            + "giveBack(0)" + IOOBE + Edges.counted(12, "borrow(0, 0, 1) => #") + "giveBack(12) | giveBack(-1) | giveBack(" + LEAST
            + ") | giveBack(" + GREATEST + ")" + IOOBE + "giveBack(11) => 0\ngiveBack(11)" + IOOBE + "giveBack(0) => 0\nsize(7) => 10\n");
        Edges.edge(33, "its cards go back to the friend || Returns how many cards came down by that", """
            load board 2; card 1 1; friend 9 0 20 0 0 0 0 0 0 0 0; service 111 1 => 1
            borrow(0, 1, 20) => 0
            hang(0) => 4
            giveBack(0) => 3
            hung(0, 1) => 1
            holes() => 2
            lends(0, 1) => 20
            undo() => 2
            giveBack(0) => 3
            borrow(0, 1, 1) => 0
            giveBack(0) => 0
            """);
    }

    private static void buy() {
        Edges.edge(34, "`card`: the number of an own card || Throws `IndexOutOfBoundsException` if there is no such own card", "buy(0, 1) | buy(-1, 1)" + IOOBE + LENDING
            + "buy(1, 1) | buy(-1, 1) | buy(100, 1) | buy(109, 1) | buy(" + GREATEST + ", 1) | buy(" + LEAST + ", 1)" + IOOBE
            + "buy(0, 1) => 2\nload board 1" + ";card 1 1".repeat(12) + " => 0\nbuy(11, 1) => 2\nbuy(12, 1)" + IOOBE);
        Edges.edge(34, "`many`: 1 to 60 || Throws `IllegalArgumentException` if many is out of range", LENDING
            + "buy(0, 0) | buy(0, -1) | buy(0, 61) | buy(0, " + LEAST + ") | buy(0, " + GREATEST + ")" + IAE + "buy(0, 1) => 2\n");
        Edges.edge(34, "Returns COUNT then; FULL if it would be above 60", """
            load board 1; card 1 0; card 2 1; card 3 60 => 0
            buy(1, 60) => -2
            buy(0, 60) => 60
            buy(0, 1) => -2
            buy(1, 59) => 60
            buy(1, 1) | buy(2, 1) | buy(2, 60) => -2
            lose(2, 1) => 0
            buy(2, 2) => -2
            buy(2, 1) => 60
            card(0, 2) | card(1, 2) | card(2, 2) => 60
            """);
    }

    private static void lose() {
        Edges.edge(35, "`card`: the number of an own card || Throws `IndexOutOfBoundsException` if there is no such own card", "lose(0, 1) | lose(-1, 1)" + IOOBE + LENDING
            + "borrow(0, 0, 1) => 0\nlose(1, 1) | lose(-1, 1) | lose(100, 1) | lose(" + GREATEST + ", 1) | lose(" + LEAST + ", 1)"
            + IOOBE + "lose(0, 1) => 0\nload board 1" + ";card 1 1".repeat(12) + " => 0\nlose(11, 1) => 0\nlose(12, 1)" + IOOBE);
        Edges.edge(35, "`many`: 1 to 60 || Throws `IllegalArgumentException` if many is out of range", LENDING
            + "lose(0, 0) | lose(0, -1) | lose(0, 61) | lose(0, " + LEAST + ") | lose(0, " + GREATEST + ")" + IAE + "lose(0, 1) => 0\n");
        Edges.edge(35, "WRONG if there are not so many", """
            load board 1; card 1 0; card 2 1; card 3 60 => 0
            lose(0, 1) | lose(0, 60) | lose(1, 2) | lose(1, 60) => -3
            size(14) => 0
            lose(1, 1) => 0
            lose(1, 1) => -3
            lose(2, 60) => 0
            card(0, 2) | card(1, 2) | card(2, 2) => 0
            lose(2, 1) => -3
            size(4) => 3
            """);
        Edges.edge(35, "Returns how many cards came down by that", """
            load board 1; card 1 60; card 1 1; service 111 => 1
            lose(0, 1) => 0
            hang(0) => 3
            lose(1, 1) => 0
            lose(0, 56) => 0
            lose(0, 1) => 1
            lose(0, 2) => 2
            """);
    }

    private static void addCard() {
        Edges.edge(36, "`front`: 0 to 9 || `back`: 0 to 9, or NONE || `count`: 0 to 60 || "
            + "Throws `IllegalArgumentException` if front, back or count is out of range",
            "addCard(-1, 0, 0) | addCard(10, 0, 0) | addCard(" + LEAST + ", 0, 0) | addCard(" + GREATEST + ", 0, 0)" + IAE
            + "addCard(0, -2, 0) | addCard(0, 10, 0) | addCard(0, " + LEAST + ", 0) | addCard(0, " + GREATEST + ", 0)" + IAE
            + "addCard(0, 0, -1) | addCard(0, 0, 61) | addCard(0, 0, " + LEAST + ") | addCard(0, 0, " + GREATEST + ")" + IAE
            + "size(4) | size(14) => 0\naddCard(0, -1, 0) => 0\naddCard(9, 9, 60) => 1\naddCard(9, 0, 1) => 2\n");
        Edges.edge(36, "FULL if there are 12", Edges.counted(12, "addCard(1, -1, 1) => #") + """
            addCard(2, -1, 1) | addCard(1, -1, 1) => -2
            most(2) => 0
            most(1) => 12
            size(4) => 12
            undo() => 7
            addCard(2, -1, 1) => 11
            addCard(2, -1, 1) => -2
            """);
        Edges.edge(36, "Returns its number", """
            load board 1; card 1 1 => 0
            addCard(2, 3, 4) => 1
            card(1, 0) => 2
            card(1, 1) => 3
            card(1, 2) => 4
            card(1, 3) => 0
            """);
    }

    private static void switches() {
        Edges.edge(37, "`on`: whether it is on from now on || Returns whether it was", """
            setTurn(false) => false
            size(2) => 0
            setTurn(true) => false
            size(2) => 1
            setTurn(true) => true
            size(2) => 1
            setTurn(false) => true
            size(2) => 0
            setTurn(false) => false
            size(3) => 0
            size(14) => 5
            """);
        Edges.edge(38, "`on`: whether it is on from now on || Returns whether it was", """
            setSplit(false) => false
            size(3) => 0
            setSplit(true) => false
            size(3) => 1
            setSplit(true) => true
            size(3) => 1
            setSplit(false) => true
            size(3) => 0
            setSplit(false) => false
            size(2) => 0
            size(14) => 5
            """);
        Edges.edge(37, "cards that hang stay, also those that are turned", """
            load board 1 turn; card 9 2; service 66 => 1
            hang(0) => 2
            setTurn(false) => true
            size(9) | card(0, 3) => 2
            place(0, 0, 2, 0) => 6
            place(0, 0, 2, 2) => 2
            turned() => 1.0
            holes() => 0
            lose(0, 1) => 1
            place(0, 0, 1, 0) => 6
            hang(0) => 1
            size(9) => 0
            """);
        Edges.edge(38, "cards that hang stay", """
            load board 1 1; card 1 2; card 2 1; service 1 2 => 1
            hang(0) => 2
            setSplit(true) => false
            size(9) => 2
            hung(1, 0) => 1
            hang(0) => 2
            hung(1, 0) => 2
            setSplit(false) => true
            hung(1, 0) => 2
            size(9) => 2
            """);
    }

    private static void setHymn() {
        Edges.edge(39, "`service`: a service || Throws `IndexOutOfBoundsException` if there is no such service", "setHymn(0, 0, 1) | setHymn(-1, 0, 1)" + IOOBE
            + LENDING + "setHymn(1, 0, 1) | setHymn(-1, 0, 1) | setHymn(" + GREATEST + ", 0, 1) | setHymn(" + LEAST + ", 0, 1)" + IOOBE
            + "setHymn(0, 0, 5) => 1\n");
        Edges.edge(39, "`hymn`: 1 to 999 || Throws `IllegalArgumentException` if hymn is out of range", LENDING
            + "setHymn(0, 0, 0) | setHymn(0, 0, 1000) | setHymn(0, 0, -1) | setHymn(0, 0, " + LEAST + ") | setHymn(0, 0, " + GREATEST
            + ")" + IAE + "setHymn(0, 0, 999) => 1\nsetHymn(0, 0, 1) => 999\nhymn(0, 0) => 1\n");
        Edges.edge(39, "`index`: its place in the list || Returns the previous one; WRONG if there is no such place", "load board 1; service 5; service 1 2 3 4 5 6 7 8; service 9 => 3\n"
            + "setHymn(0, 1, 1) | setHymn(0, -1, 1) | setHymn(0, 8, 1) | setHymn(1, 8, 1) | setHymn(1, -1, 1) | setHymn(2, 1, 1) => -3\n"
            + "setHymn(0, " + GREATEST + ", 1) | setHymn(0, " + LEAST + ", 1) => -3\n"
            + "size(14) => 0\nsetHymn(0, 0, 6) => 5\nsetHymn(1, 7, 9) => 8\nsetHymn(1, 0, 10) => 1\nsetHymn(1, 3, 11) => 4\n"
            + "hymn(0, 0) => 6\nwriteService(1) => 17\nout => 10 2 3 11 5 6 7 9\nhymn(2, 0) => 9\n");
        Edges.edge(39, "cards that hang stay", """
            load board 1; card 1 3; service 111 => 1
            hang(0) => 3
            setHymn(0, 0, 1) => 111
            size(9) => 3
            hung(0, 0) => 111
            """);
    }

    private static void addHymn() {
        Edges.edge(40, "`service`: a service || Throws `IndexOutOfBoundsException` if there is no such service", "addHymn(0, 1) | addHymn(-1, 1)" + IOOBE
            + LENDING + "addHymn(1, 1) | addHymn(-1, 1) | addHymn(" + GREATEST + ", 1) | addHymn(" + LEAST + ", 1)" + IOOBE
            + "addHymn(0, 5) => 2\n");
        Edges.edge(40, "`hymn`: 1 to 999 || Throws `IllegalArgumentException` if hymn is out of range", LENDING
            + "addHymn(0, 0) | addHymn(0, 1000) | addHymn(0, -1) | addHymn(0, " + LEAST + ") | addHymn(0, " + GREATEST + ")" + IAE
            + "addHymn(0, 999) => 2\naddHymn(0, 1) => 3\nhymn(0, 1) => 999\n");
        Edges.edge(40, "Returns how many it has then; FULL if it has 8", """
            load board 1; service 1 2 3 4 5 6 7; service 9; service 1 2 3 4 5 6 7 8 => 3
            addHymn(2, 9) => -2
            addHymn(0, 8) => 8
            addHymn(0, 9) => -2
            hymn(0, 7) => 8
            hymn(1, 0) => 9
            hymns(0) => 8
            size(14) => 1
            undo() => 0
            hymns(0) => 7
            addHymn(0, 999) => 8
            """);
        Edges.edge(40, "cards that hang stay", """
            load board 2; card 1 3; service 111 => 1
            hang(0) => 3
            addHymn(0, 1) => 2
            size(9) => 3
            hung(0, 1) => -1
            holes() => 0
            """);
    }

    private static void addService() {
        Edges.edge(41, "`hymn`: 1 to 999 || Throws `IllegalArgumentException` if hymn is out of range",
            "addService(0) | addService(1000) | addService(-1) | addService(" + LEAST + ") | addService(" + GREATEST + ")" + IAE
            + "size(6) | size(14) => 0\naddService(1) => 0\naddService(999) => 1\nhymn(1, 0) => 999\n");
        Edges.edge(41, "Returns its number; FULL if there are 16", Edges.counted(16, "addService(#1) => #") + """
            addService(1) | addService(999) => -2
            hymn(15, 0) => 151
            hymns(15) => 1
            undo() => 7
            addService(999) => 15
            hymns(15) => 1
            addService(1) => -2
            """);
    }

    private static void undo() {
        Edges.edge(47, "NONE, and nothing changes, if there is none", """
            undo() | undo() => -1
            load board 1; card 1 1; service 1 => 1
            undo() => -1
            hang(0) => 1
            undo() => 0
            undo() | undo() => -1
            size(8) => -1
            size(6) => 1
            hang(0) => 1
            load board 1 => 0
            undo() => -1
            size(6) => 0
            """);
        Edges.edge(47, "Takes the latest action back that was not taken back || Returns how many can be taken back then", "clear() => 0\n".repeat(9)
            + "undo() => 7\nundo() => 6\nclear() => 0\nundo() => 6\nundo() => 5\nundo() => 4\nundo() => 3\nundo() => 2\n"
            + "undo() => 1\nundo() => 0\nundo() => -1\nclear() => 0\nundo() => 0\nundo() => -1\n");
        Edges.edge(47, "The output stays", """
            load board 1; card 7 1; service 7 => 1
            hang(0) => 1
            write() => 3
            undo() => 0
            out => ..7
            undo() => -1
            out => ..7
            """);
    }

    private static void snapshots() {
        Edges.edge(48, "`slot`: 0 or 1 || Throws `IllegalArgumentException` if slot is out of range", "saveSnapshot(-1) | saveSnapshot(2) | saveSnapshot("
            + LEAST + ") | saveSnapshot(" + GREATEST + ")" + IAE + "saveSnapshot(0) | saveSnapshot(1) => 0\n");
        Edges.edge(49, "`slot`: 0 or 1 || Throws `IllegalArgumentException` if slot is out of range", "saveSnapshot(0) | saveSnapshot(1) => 0\n"
            + "restoreSnapshot(-1) | restoreSnapshot(2) | restoreSnapshot(" + LEAST + ") | restoreSnapshot(" + GREATEST + ")" + IAE
            + "restoreSnapshot(0) | restoreSnapshot(1) => 0\n");
        Edges.edge(49, "Returns the services that were held then; NONE, and nothing changes, if nothing was saved there", """
            clear() => 0
            restoreSnapshot(0) | restoreSnapshot(1) => -1
            size(14) => 1
            saveSnapshot(1) => 0
            restoreSnapshot(0) => -1
            size(14) => 1
            restoreSnapshot(1) => 0
            size(14) => 0
            """);
        Edges.edge(49, "Replaces everything by a copy of a snapshot, which stays; nothing can be taken back then", """
            load board 1 2 turn split; card 1 2; friend 2 0 1 0 0 0 0 0 0 0 0; service 1 11 => 1
            borrow(0, 1, 1) => 0
            hang(0) => 3
            hold() => 0
            saveSnapshot(0) => 1
            clear() => 3
            setTurn(false) => true
            giveBack(0) => 0
            addService(7) => 1
            restoreSnapshot(0) => 1
            size(14) => 0
            undo() => -1
            size(9) => 3
            size(2) | size(3) | size(6) | size(7) | size(10) | loan(0, 3) => 1
            hold() => 1
            lose(0, 2) => 2
            setHymn(0, 0, 5) => 1
            restoreSnapshot(0) => 1
            size(9) => 3
            hymn(0, 0) => 1
            card(0, 2) => 2
            loan(0, 3) => 1
            load board 6 => 0
            restoreSnapshot(0) => 1
            size(1) | size(9) => 3
            size(11) => 3
            """);
        Edges.edge(48, "Copies everything except the input buffer, the results of the latest load, the actions, the output and the snapshots "
            + "to a snapshot", """
            load board 1; card 5 1; service 5 => 1
            hang(0) => 1
            write() => 3
            saveSnapshot(0) => 0
            size(14) => 1
            append(0x41) => 1
            load => -100
            append(0x4142) => 2
            writeService(0) => 1
            clear() => 1
            saveSnapshot(1) => 0
            restoreSnapshot(0) => 0
            loadError() => 1
            loadStatement() => 0
            append(0) => 2
            out => 5
            size(9) => 1
            restoreSnapshot(1) => 0
            size(9) => 0
            restoreSnapshot(0) => 0
            size(9) => 1
            """);
        Edges.edge(48, "Returns the services that were held", """
            saveSnapshot(0) => 0
            addService(1) => 0
            hang(0) => 0
            hold() => 0
            saveSnapshot(1) => 1
            hold() => 0
            saveSnapshot(0) => 2
            restoreSnapshot(1) => 1
            restoreSnapshot(0) => 2
            """);
    }
}
