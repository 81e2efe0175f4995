/** The promises by their numbers; those about descriptions (2 to 5) are in DescriptionTest. */
public final class PromisesTest {
    private static final String IOOBE = " => throws.IndexOutOfBoundsException\n";
    private static final String IAE = " => throws.IllegalArgumentException\n";

    public static void main(String[] args) {
        newObject();
        size();
        cards();
        loansAndLends();
        lists();
        placesAndRows();
        freeAndMost();
        would();
        missingAndBuying();
        comparing();
        falling();
        hanging();
        cardsOfLowestNumber();
        work();
        hold();
        clear();
        borrow();
        giveBack();
        buyAndLose();
        addCard();
        switches();
        changeServices();
        parts();
        output();
        undo();
        snapshots();
        Script.end();
    }

    private static void newObject() {
        Script.run("1 a new object", """
            size(0) => 1
            rows(0) => 4
            size(1) => 4
            size(2) => 0
            size(3) => 0
            size(4) => 0
            size(5) => 0
            size(6) => 0
            size(7) => 0
            size(8) => -1
            size(9) => 0
            size(10) => 0
            size(11) => 0
            size(12) => 0
            size(13) => 0
            size(14) => 0
            outputByte(0) => -1
            restoreSnapshot(0) => -1
            restoreSnapshot(1) => -1
            undo() => -1
            append(0x20) => 1
            """);
        Script.due("NONE", HymnBoards.NONE, -1);
        Script.due("FULL", HymnBoards.FULL, -2);
        Script.due("WRONG", HymnBoards.WRONG, -3);
    }

    private static void size() {
        Script.run("6 size", """
            load board 1 6 2 turn split; card 1 1; card 2 1; friend 2 1 1 1 0 0 0 0 0 0 0; service 1 22 2; service 1 => 2
            size(0) => 3
            size(1) => 9
            size(2) => 1
            size(3) => 1
            size(4) => 2
            size(5) => 1
            size(6) => 2
            borrow(0, 0, 1) => 0
            size(7) => 1
            hang(0) => 2
            size(8) => 0
            size(9) => 2
            size(10) => 0
            hold() => 0
            size(10) => 1
            size(11) => 2
            size(12) => 2
            size(13) => 1
            hang(1) => 1
            size(8) => 1
            size(9) => 1
            size(11) => 3
            size(12) => 3
            size(13) => 1
            size(14) => 4
            size(-1)""" + IAE + "size(15)" + IAE + "size(-2147483648)" + IAE + "size(2147483647)" + IAE);
    }

    private static void cards() {
        Script.run("7 card", """
            load board 2; card 7 back 3 5; card 2 0; friend 1 0 0 0 4 0 0 0 0 0 0; service 73 3 => 1
            card(0, 0) => 7
            card(0, 1) => 3
            card(0, 2) => 5
            card(0, 3) => 0
            card(1, 0) => 2
            card(1, 1) => -1
            card(1, 2) => 0
            card(103, 2) => 0
            borrow(0, 3, 1) => 0
            borrow(0, 3, 2) => 1
            card(103, 0) => 3
            card(103, 1) => -1
            card(103, 2) => 3
            hang(0) => 3
            card(0, 3) => 3
            card(103, 3) => 0
            lose(0, 3) => 1
            card(0, 3) => 2
            card(100, 0) => 0
            card(109, 0) => 9
            card(2, 0)""" + IOOBE + "card(-1, 0)" + IOOBE + "card(99, 0)" + IOOBE + "card(110, 0)" + IOOBE
            + "card(12, 0)" + IOOBE + "card(2147483647, 0)" + IOOBE + "card(-2147483648, 9)" + IOOBE
            + "card(2, 4)" + IOOBE + "card(0, 4)" + IAE + "card(0, -1)" + IAE + "card(109, 4)" + IAE);
        Script.run("7 card without friends", "card(0, 0)" + IOOBE + "card(100, 0)" + IOOBE);
        Script.run("8 way", """
            load board 1 turn; card 6 2; card 6 back 9 1; card 3 back 9 1; card 9 back 9 1; friend 1 0 0 0 0 0 0 0 0 0 0 => 0
            way(0, 6) => 0
            way(0, 9) => 2
            way(0, 0) => -1
            way(1, 6) => 0
            way(1, 9) => 1
            way(2, 6) => 3
            way(2, 9) => 1
            way(2, 3) => 0
            way(2, 5) => -1
            way(3, 9) => 0
            way(3, 6) => 2
            way(106, 9) => 2
            way(109, 6) => 2
            way(109, 9) => 0
            way(105, 9) => -1
            setTurn(false) => true
            way(0, 9) => -1
            way(1, 9) => 1
            way(2, 6) => -1
            way(106, 9) => -1
            way(4, 10)""" + IOOBE + "way(110, 0)" + IOOBE + "way(-1, 0)" + IOOBE + "way(0, 10)" + IAE
            + "way(0, -1)" + IAE + "way(100, 10)" + IAE);
    }

    private static void loansAndLends() {
        Script.run("9 lends, 10 loan, 28 lenders", """
            load board 1; friend 2 3 0 0 0 0 0 0 0 0 1; friend 9 2 20 0 0 0 0 0 0 0 0; friend 1 0 1 0 0 0 0 0 0 0 1 => 0
            lends(0, 0) => 3
            lends(1, 1) => 20
            lends(2, 0) => 0
            lenders(0) => 3
            lenders(1) => 6
            lenders(2) => 0
            lenders(9) => 5
            borrow(0, 0, 2) => 0
            borrow(1, 1, 20) => 1
            borrow(2, 9, 1) => 2
            lends(0, 0) => 1
            lends(1, 1) => 0
            lenders(1) => 4
            lenders(9) => 1
            loan(0, 0) => 0
            loan(0, 1) => 0
            loan(0, 2) => 2
            loan(0, 3) => 2
            loan(1, 0) => 1
            loan(1, 1) => 1
            loan(1, 2) => 20
            loan(1, 3) => 9
            loan(2, 0) => 2
            loan(2, 1) => 9
            loan(2, 2) => 1
            loan(2, 3) => 1
            giveBack(1) => 0
            lends(1, 1) => 20
            loan(1, 0) => 2
            loan(1, 1) => 9
            loan(1, 2) => 1
            loan(1, 3) => 1
            loan(2, 0)""" + IOOBE + "loan(-1, 0)" + IOOBE + "loan(2, 9)" + IOOBE + "loan(0, 4)" + IAE
            + "loan(0, -1)" + IAE + "lends(3, 0)" + IOOBE + "lends(-1, 10)" + IOOBE + "lends(0, 10)" + IAE
            + "lends(0, -1)" + IAE + "lenders(10)" + IAE + "lenders(-1)" + IAE);
        Script.run("no loans", "loan(0, 0)" + IOOBE + "lends(0, 0)" + IOOBE + "lenders(0) => 0");
    }

    private static void lists() {
        Script.run("11 rows, 12 hymns, 13 hymn", """
            load board 2 6; service 999 1 (20) 3; service 7 => 2
            rows(0) => 2
            rows(1) => 6
            hymns(0) => 5
            hymns(1) => 1
            hymn(0, 0) => 999
            hymn(0, 1) => 1
            hymn(0, 4) => 20
            hymn(0, 5) => -1
            hymn(0, -1) => -1
            hymn(0, 2147483647) => -1
            hymn(1, 0) => 7
            hymn(1, 1) => -1
            rows(2)""" + IOOBE + "rows(-1)" + IOOBE + "hymns(2)" + IOOBE + "hymns(-1)" + IOOBE + "hymn(2, 0)" + IOOBE
            + "hymn(-1, 0)" + IOOBE);
    }

    private static void placesAndRows() {
        Script.run("14 place, 15 hung, 16 holes", """
            load board 2 3 turn; card 1 back 9 6; service 666 7 1 => 1
            hang(0) => 6
            hung(0, 0) => 666
            hung(0, 1) => -1
            hung(1, 0) => 666
            hung(1, 1) => -1
            hung(1, 2) => -1
            setHymn(0, 1, 11) => 7
            hang(0) => 6
            hung(0, 0) => 666
            hung(0, 1) => 11
            hung(1, 0) => -1
            hung(1, 1) => -1
            hung(1, 2) => 1
            place(0, 0, 0, 0) => 6
            place(0, 0, 0, 1) => 0
            place(0, 0, 0, 2) => 3
            place(0, 1, 0, 0) => -1
            place(0, 1, 0, 1) => -1
            place(0, 1, 0, 2) => -1
            place(0, 1, 1, 0) => 1
            place(0, 1, 1, 2) => 0
            place(1, 2, 2, 0) => 1
            place(1, 2, 1, 0) => -1
            holes() => 0
            lose(0, 1) => 1
            place(1, 2, 2, 0) => -1
            place(1, 2, 2, 1) => -1
            place(1, 2, 2, 2) => -1
            hung(1, 2) => 1
            holes() => 1
            lose(0, 2) => 2
            holes() => 2
            lose(0, 1) => 1
            holes() => 3
            hung(0, 0) => 666
            place(0, 0, 1, 0) => 6
            place(0, 0, 2, 0) => -1
            setTurn(false) => true
            place(0, 0, 1, 2) => 3
            place(2, 0, 0, 0)""" + IOOBE + "place(0, 2, 0, 0)" + IOOBE + "place(-1, 0, 0, 0)" + IOOBE
            + "place(0, -1, 5, 5)" + IOOBE + "place(0, 0, 3, 0)" + IAE + "place(0, 0, -1, 0)" + IAE
            + "place(0, 0, 0, 3)" + IAE + "place(0, 0, 0, -1)" + IAE + "hung(2, 0)" + IOOBE + "hung(-1, 0)" + IOOBE
            + "hung(0, 2)" + IOOBE + "hung(1, -1)" + IOOBE + "hung(1, 3)" + IOOBE);
        Script.run("14 place of a borrowed card", """
            load board 1; friend 1 0 0 0 0 0 0 0 0 0 0; friend 1 0 0 0 0 0 0 0 0 0 1; service 9 => 1
            borrow(1, 9, 1) => 0
            hang(0) => 1
            place(0, 0, 2, 1) => 119
            """);
        Script.run("16 holes: a row that lacks its first card alone", """
            load board 1; card 1 1; card 0 2; service 100 => 1
            hang(0) => 3
            lose(0, 1) => 1
            holes() => 1
            place(0, 0, 0, 0) => -1
            place(0, 0, 1, 0) => 0
            """);
    }

    private static void freeAndMost() {
        Script.run("17 free, 18 canShow, 19 most", """
            load board 1 turn; card 6 2; card 1 back 9 3; card 4 1; friend 1 0 0 0 0 0 0 0 0 0 5; service 61 => 1
            free(6) => 5
            free(9) => 5
            free(1) => 3
            free(0) => 0
            most(6) => 5
            most(1) => 3
            most(0) => 0
            canShow(999) => true
            canShow(111) => true
            canShow(14) => true
            canShow(44) => false
            canShow(5) => false
            borrow(0, 9, 2) => 0
            free(6) => 7
            most(9) => 7
            hang(0) => 2
            free(6) => 5
            free(1) => 2
            most(6) => 7
            most(1) => 3
            canShow(111) => false
            canShow(119) => true
            setTurn(false) => true
            free(6) => 1
            free(9) => 4
            most(6) => 2
            most(9) => 5
            canShow(66) => false
            canShow(999) => true
            canShow(1) => true
            canShow(0)""" + IAE + "canShow(1000)" + IAE + "canShow(-1)" + IAE + "free(10)" + IAE + "free(-1)" + IAE
            + "most(10)" + IAE + "most(-1)" + IAE + "canShow(999) => true\n");
        Script.run("18 canShow with cards of two sides", """
            load board 1; card 1 back 2 1; card 2 back 3 1; card 3 back 1 1 => 0
            canShow(123) => true
            canShow(112) => true
            canShow(111) => false
            canShow(113) => true
            canShow(222) => false
            """);
    }

    private static void would() {
        Script.run("20 would, 21 outAt", """
            load board 2 2 turn; card 9 3; card 5 back 6 2; friend 3 9 9 9 9 9 9 9 9 9 9; service 66 5; service 7 5; service 69 => 3
            would(0, 0) => 3
            would(0, 1) => 1
            would(0, 2) => 5
            would(0, 3) => 5
            would(0, 4) => 3
            would(0, 5) => 1
            would(0, 6) => 0
            outAt(0) => 101
            outAt(1) => 0
            outAt(2) => -1
            borrow(0, 5, 1) => 0
            would(0, 0) => 4
            would(0, 1) => 0
            would(0, 3) => 6
            would(0, 4) => 3
            would(0, 5) => 1
            would(0, 6) => 1
            outAt(0) => -1
            hang(0) => 6
            would(0, 2) => 0
            would(1, 2) => 4
            would(2, 2) => 6
            size(8) => 0
            size(9) => 6
            setSplit(true) => false
            outAt(1) => 0
            would(0, 0) => 2
            would(0, 1) => 0
            would(2, 0) => 1
            setHymn(0, 1, 777) => 5
            outAt(0) => 1
            addHymn(0, 7) => 3
            outAt(0) => 1
            would(0, 1) => 2
            setHymn(0, 1, 5) => 777
            outAt(0) => 100
            would(3, 0)""" + IOOBE + "would(-1, 9)" + IOOBE + "would(0, 7)" + IAE + "would(0, -1)" + IAE
            + "outAt(3)" + IOOBE + "outAt(-1)" + IOOBE + "size(14) => 6\n");
        Script.run("20 would, backs turned", """
            load board 1 turn; card 5 back 6 3; service 569 => 1
            would(0, 4) => 1
            would(0, 5) => 2
            """);
        Script.run("20 would, 27 wouldFall: the borrowed card with the lowest number", """
            load board 1; friend 1 2 0 0 0 0 0 0 0 0 0; card 1 1; service 100 => 1
            borrow(0, 0, 2) => 0
            would(0, 6) => 2
            hang(0) => 3
            wouldFall() => 2
            """);
    }

    private static void missingAndBuying() {
        Script.run("22 missing, 23 bestBuy", """
            load board 4 4; card 1 2; card 2 back 1 1; service 111 222; service 121; service 4 4 3 3; service 12 => 4
            missing(0) => 9
            missing(1) => 3
            missing(2) => 8
            missing(3) => 1
            bestBuy(0) => -1
            bestBuy(1) => -1
            bestBuy(2) => 3
            bestBuy(3) => 2
            setSplit(false) => false
            addCard(1, -1, 0) => 2
            buy(2, 1) => 1
            missing(1) => 2
            bestBuy(1) => -1
            buy(0, 1) => 3
            bestBuy(1) => 2
            buy(0, 60) => -2
            missing(3) => 1
            bestBuy(3) => 2
            buy(1, 1) => 2
            missing(3) => 0
            bestBuy(3) => -1
            missing(4)""" + IOOBE + "missing(-1)" + IOOBE + "bestBuy(4)" + IOOBE + "bestBuy(-1)" + IOOBE);
        Script.run("23 bestBuy with 12 own cards, and of cards that can be turned", """
            load board 1; card 0 0;card 0 0;card 0 0;card 0 0;card 0 0;card 0 0;card 0 0;card 0 0;card 0 0;card 0 0;card 0 0;card 0 0; service 9 => 1
            size(4) => 12
            bestBuy(0) => 9
            setTurn(true) => false
            bestBuy(0) => 6
            """);
        Script.run("23 bestBuy: one more card may let fewer rows hang", """
            load board 4; card 1 2; service 112 1 1 1; service 112 1 1; service 112 => 3
            would(0, 0) => 2
            bestBuy(0) => 1
            bestBuy(1) => -1
            bestBuy(2) => 2
            addCard(2, -1, 1) => 1
            would(0, 0) => 1
            bestBuy(0) => 1
            """);
    }

    private static void comparing() {
        Script.run("24 firstOut, 25 workFrom, 26 easiest", """
            load board 2; card 1 3; card 2 2; service 11 2; service 12 2; service 1; service 21 => 4
            firstOut() => -1
            workFrom(0, 0) => 0
            workFrom(0, 1) => 2
            workFrom(0, 2) => 2
            workFrom(2, 0) => 2
            workFrom(3, 1) => 5
            easiest() => 2
            hang(3) => 2
            easiest() => 3
            setHymn(3, 0, 12) => 21
            easiest() => 2
            workFrom(0, 1) => 2
            hang(0) => 3
            workFrom(2, 0) => 2
            setHymn(0, 0, 111) => 11
            setHymn(2, 0, 11) => 1
            easiest() => 0
            addHymn(0, 2) => 3
            firstOut() => -1
            addHymn(3, 3) => 2
            firstOut() => 3
            setHymn(1, 0, 3) => 12
            firstOut() => 1
            workFrom(4, 0)""" + IOOBE + "workFrom(0, 4)" + IOOBE + "workFrom(-1, 0)" + IOOBE + "workFrom(0, -1)" + IOOBE
            + "size(8) => 0\n");
        Script.run("without services", "easiest() => -1\nfirstOut() => -1\nworkFrom(0, 0)" + IOOBE);
        Script.run("26 easiest: of several the lowest", """
            load board 1; card 1 1; card 2 1; service 1; service 2 => 2
            easiest() => 0
            """);
    }

    private static void falling() {
        Script.run("27 wouldFall", """
            load board 3; card 1 1; friend 1 0 4 0 0 0 0 0 0 0 0; friend 2 0 4 4 0 0 0 0 0 0 0; service 111 122 11 => 1
            wouldFall() => 0
            borrow(0, 1, 1) => 0
            borrow(1, 1, 2) => 1
            borrow(0, 1, 3) => 2
            wouldFall() => 0
            hang(0) => 5
            card(101, 3) => 4
            card(111, 3) => 0
            wouldFall() => 4
            giveBack(2) => 3
            wouldFall() => 1
            hang(0) => 1
            card(111, 3) => 1
            wouldFall() => 1
            hold() => 1
            wouldFall() => 1
            borrow(0, 1, 3) => 1
            wouldFall() => 1
            clear() => 2
            wouldFall() => 0
            """);
        Script.run("27 wouldFall: part of what hangs", """
            load board 1; friend 1 0 9 0 0 0 0 0 0 0 0; friend 2 0 9 0 0 0 0 0 0 0 0; service 111 => 1
            borrow(1, 1, 1) => 0
            hold() => -3
            borrow(0, 1, 2) => 1
            hang(0) => 3
            wouldFall() => 2
            hold() => 2
            wouldFall() => 1
            borrow(1, 1, 5) => 1
            wouldFall() => 0
            hold() => 0
            size(7) => 1
            """);
    }

    private static void hanging() {
        Script.run("29 hang: rows left out", """
            load board 2 3 1; card 1 2; card 2 back 3 2; service 12 1 1 3 => 1
            hang(0) => 3
            write() => 23
            out => .12/..1 .../.../... ...
            hung(1, 0) => -1
            size(8) => 0
            size(12) => 2
            size(13) => 4
            setSplit(true) => false
            hang(0) => 1
            write() => 23
            out => .12/..1 .../..3/... ...
            size(12) => 5
            size(13) => 5
            hang(1)""" + IOOBE + "hang(-1)" + IOOBE + "size(12) => 5\nsize(14) => 3\n");
        Script.run("29 hang: split goes on behind what the board ahead is to show", """
            load board 1 2 3 split; card 1 9; service 1 11 9 111 1; service 1; service 11 1 => 3
            hang(0) => 7
            write() => 23
            out => ..1 .11/... 111/..1/...
            hang(1) => 6
            write() => 23
            out => ..1 .../... .../.../...
            hang(2) => 2
            write() => 23
            out => .11 ..1/... .../.../...
            size(13) => 1
            """);
        Script.run("29 hang: all rows left out, and service of more hymns than rows", """
            load board 1; card 1 1; service 2 1 => 1
            hang(0) => 0
            size(8) => 0
            size(13) => 1
            size(12) => 0
            hold() => 0
            """);
    }

    private static void cardsOfLowestNumber() {
        Script.run("29 hang: the lowest card with which those behind can still be shown", """
            load board 2 turn; card 1 back 2 1; card 1 1; card 9 back 1 1; card 6 1; service 12 66; service 11 1; service 16 => 3
            hang(0) => 4
            place(0, 0, 1, 1) => 1
            place(0, 0, 2, 1) => 0
            place(0, 0, 2, 2) => 1
            place(0, 1, 1, 1) => 2
            place(0, 1, 1, 2) => 2
            place(0, 1, 2, 1) => 3
            hang(1) => 5
            place(0, 0, 1, 1) => 0
            place(0, 0, 2, 1) => 1
            place(0, 1, 2, 1) => 2
            place(0, 1, 2, 2) => 1
            hang(2) => 3
            place(0, 0, 1, 1) => 0
            place(0, 0, 2, 1) => 2
            place(0, 0, 2, 2) => 2
            """);
        Script.run("29 hang: own cards come ahead of borrowed ones", """
            load board 1; friend 1 0 0 0 0 0 2 0 0 0 0; friend 1 0 0 0 0 0 2 0 0 0 0; card 4 back 5 1; service 555; service 45 => 2
            borrow(1, 5, 1) => 0
            borrow(0, 5, 1) => 1
            hang(0) => 3
            place(0, 0, 0, 1) => 0
            place(0, 0, 1, 1) => 105
            place(0, 0, 2, 1) => 115
            hang(1) => 3
            place(0, 0, 1, 1) => 0
            place(0, 0, 2, 1) => 105
            """);
        Script.run("29 hang: a chain of cards that must show other digits", """
            load board 1; card 1 back 2 1; card 2 back 3 1; card 3 back 4 1; card 4 back 1 1; service 234; service 341; service 123 => 3
            hang(0) => 3
            place(0, 0, 0, 1) => 0
            place(0, 0, 1, 1) => 1
            place(0, 0, 2, 1) => 2
            hang(1) => 6
            place(0, 0, 0, 1) => 1
            place(0, 0, 1, 1) => 2
            place(0, 0, 2, 1) => 0
            hang(2) => 6
            place(0, 0, 0, 1) => 0
            place(0, 0, 1, 1) => 1
            place(0, 0, 2, 1) => 2
            """);
        Script.run("29 hang: a card that could not be spared ahead is the one that makes a lower card free", """
            load board 1 turn; card 6 1; card 1 back 6 1; card 1 1; service 169 => 1
            hang(0) => 3
            place(0, 0, 0, 1) => 2
            place(0, 0, 1, 1) => 0
            place(0, 0, 2, 1) => 1
            place(0, 0, 2, 2) => 3
            """);
        Script.run("29 hang: a card that would show a 0 is free for the digit ahead", """
            load board 1; card 1 back 0 1; card 0 1; card 1 1; service 10 => 1
            hang(0) => 2
            place(0, 0, 1, 1) => 0
            place(0, 0, 2, 1) => 1
            """);
    }

    private static void work() {
        Script.run("29 hang: work", """
            load board 2 turn; card 6 2; card 1 2; service 61 1; service 16 1; service 91; service 161 6 => 4
            hang(0) => 3
            hang(0) => 0
            hang(1) => 4
            hang(2) => 5
            hang(3) => 4
            size(11) => 16
            lose(0, 2) => 2
            size(11) => 16
            place(0, 0, 0, 0) => 1
            place(0, 0, 1, 0) => -1
            buy(0, 2) => 2
            would(3, 2) => 2
            hang(3) => 2
            clear() => 4
            size(11) => 18
            hang(3) => 4
            """);
        Script.run("29 hang: another card of the same digit is no work", """
            load board 1; card 2 1; card 1 back 2 1; service 2 => 1
            hang(0) => 1
            lose(0, 1) => 1
            hang(0) => 1
            buy(0, 1) => 1
            hang(0) => 0
            place(0, 0, 2, 1) => 0
            """);
    }

    private static void hold() {
        Script.run("30 hold", """
            load board 2; card 1 1; friend 2 0 3 0 0 0 0 0 0 0 0; friend 1 0 0 3 0 0 0 0 0 0 0; service 12 122 => 1
            hold() => -3
            size(14) => 0
            borrow(0, 1, 1) => 0
            borrow(1, 2, 2) => 1
            borrow(0, 1, 1) => 2
            hang(0) => 2
            hang(0) => 0
            borrow(1, 2, 1) => 3
            hang(0) => 3
            hold() => 3
            size(7) => 2
            size(10) => 1
            loan(0, 3) => 1
            loan(1, 0) => 0
            loan(1, 2) => 1
            loan(1, 3) => 1
            lends(1, 2) => 3
            card(112, 2) => 0
            holes() => 2
            hold() => 1
            size(7) => 0
            size(10) => 2
            lends(0, 1) => 3
            hold() => 0
            size(10) => 3
            size(8) => 0
            clear() => 1
            hold() => -3
            undo() => 7
            hold() => 0
            size(10) => 4
            """);
    }

    private static void clear() {
        Script.run("31 clear", """
            load board 2; card 1 3; service 11 1 => 1
            clear() => 0
            size(14) => 1
            hang(0) => 3
            lose(0, 1) => 1
            clear() => 2
            size(8) => -1
            size(9) => 0
            size(11) => 3
            hung(0, 0) => -1
            holes() => 0
            card(0, 3) => 0
            write() => 7
            out => .../...
            clear() => 0
            size(14) => 5
            size(12) => 2
            """);
    }

    private static void borrow() {
        Script.run("32 borrow", """
            load board 1; friend 3 20 0 0 0 0 0 0 0 0 1 => 0
            borrow(0, 0, 21) => -3
            borrow(0, 0, 60) => -3
            borrow(0, 1, 1) => -3
            size(14) => 0
            borrow(0, 0, 1) => 0
            borrow(0, 0, 1) => 1
            borrow(0, 0, 1) => 2
            borrow(0, 0, 1) => 3
            borrow(0, 0, 1) => 4
            borrow(0, 0, 1) => 5
            borrow(0, 0, 1) => 6
            borrow(0, 0, 1) => 7
            borrow(0, 0, 1) => 8
            borrow(0, 0, 1) => 9
            borrow(0, 0, 1) => 10
            borrow(0, 0, 9) => 11
            borrow(0, 0, 1) => -3
            borrow(0, 9, 1) => -2
            borrow(0, 9, 2) => -3
            lends(0, 9) => 1
            card(100, 2) => 20
            loan(11, 3) => 3
            size(7) => 12
            giveBack(3) => 0
            borrow(0, 9, 1) => 11
            borrow(1, 10, 0)""" + IOOBE + "borrow(-1, 0, 1)" + IOOBE + "borrow(0, 10, 1)" + IAE + "borrow(0, -1, 1)" + IAE
            + "borrow(0, 0, 0)" + IAE + "borrow(0, 0, 61)" + IAE + "borrow(0, 0, -1)" + IAE + "size(7) => 12\n");
    }

    private static void giveBack() {
        Script.run("33 giveBack", """
            load board 2; friend 1 0 5 0 0 0 0 0 0 0 0; service 11 11 => 1
            borrow(0, 1, 1) => 0
            borrow(0, 1, 3) => 1
            borrow(0, 1, 1) => 2
            hang(0) => 4
            giveBack(2) => 0
            giveBack(1) => 3
            place(0, 0, 1, 0) => 1
            place(0, 0, 2, 0) => -1
            place(0, 1, 1, 0) => -1
            lends(0, 1) => 4
            size(7) => 1
            giveBack(1)""" + IOOBE + "giveBack(-1)" + IOOBE + "giveBack(12)" + IOOBE + """
            giveBack(0) => 1
            size(9) => 0
            size(8) => 0
            holes() => 2
            lends(0, 1) => 5
            size(11) => 4
            size(14) => 7
            """);
        Script.run("33 giveBack, 35 lose: the very last place comes down first", """
            load board 6 6 6; card 5 16; friend 1 0 0 0 0 0 2 0 0 0 0; service (5) 6 => 1
            borrow(0, 5, 2) => 0
            hang(0) => 18
            place(2, 5, 2, 1) => 105
            lose(0, 1) => 1
            place(2, 3, 2, 0) => -1
            giveBack(0) => 2
            place(2, 5, 2, 0) => -1
            place(2, 4, 2, 0) => -1
            place(2, 2, 2, 0) => 5
            hung(2, 5) => 5
            holes() => 3
            """);
    }

    private static void buyAndLose() {
        Script.run("34 buy, 35 lose", """
            load board 1; card 1 1; card 5 60; friend 1 0 1 0 0 0 0 0 0 0 0; service 515 => 1
            buy(0, 2) => 3
            card(0, 2) => 3
            buy(0, 58) => -2
            buy(0, 57) => 60
            buy(1, 1) => -2
            buy(1, 60) => -2
            size(14) => 2
            hang(0) => 3
            lose(1, 58) => 0
            lose(1, 3) => -3
            lose(1, 1) => 1
            place(0, 0, 0, 0) => 5
            place(0, 0, 2, 0) => -1
            lose(1, 1) => 1
            lose(1, 1) => -3
            card(1, 2) => 0
            size(9) => 1
            size(14) => 6
            buy(2, 1)""" + IOOBE + "buy(-1, 1)" + IOOBE + "buy(101, 1)" + IOOBE + "buy(2, 0)" + IOOBE + "buy(0, 0)" + IAE
            + "buy(0, 61)" + IAE + "buy(0, -2147483648)" + IAE + "buy(0, 2147483647)" + IAE
            + "lose(2, 1)" + IOOBE + "lose(-1, 0)" + IOOBE + "lose(101, 1)" + IOOBE + "lose(0, 0)" + IAE + "lose(0, 61)" + IAE
            + "size(14) => 6\n");
    }

    private static void addCard() {
        Script.run("36 addCard", """
            addCard(0, -1, 0) => 0
            addCard(9, 9, 60) => 1
            card(0, 1) => -1
            card(1, 0) => 9
            card(1, 1) => 9
            card(1, 2) => 60
            addCard(1, 0, 1) => 2
            addCard(1, 0, 1) => 3
            addCard(1, 0, 1) => 4
            addCard(1, 0, 1) => 5
            addCard(1, 0, 1) => 6
            addCard(1, 0, 1) => 7
            addCard(1, 0, 1) => 8
            addCard(1, 0, 1) => 9
            addCard(1, 0, 1) => 10
            size(14) => 8
            addCard(1, 2, 3) => 11
            addCard(1, 2, 3) => -2
            size(4) => 12
            undo() => 7
            card(11, 2)""" + IOOBE + "addCard(10, 0, 0)" + IAE + "addCard(-1, 0, 0)" + IAE + "addCard(0, -2, 0)" + IAE
            + "addCard(0, 10, 0)" + IAE + "addCard(0, 0, 61)" + IAE + "addCard(0, 0, -1)" + IAE + "addCard(7, 8, 9) => 11\n"
            + "addCard(10, 0, 0)" + IAE + "most(8) => 9\n");
    }

    private static void switches() {
        Script.run("37 setTurn, 38 setSplit", """
            load board 1 1; card 6 2; service 9 6 => 1
            setTurn(false) => false
            setTurn(true) => false
            setTurn(true) => true
            size(2) => 1
            hang(0) => 2
            setTurn(false) => true
            size(9) => 2
            turned() => 1.0
            place(0, 0, 2, 2) => 2
            card(0, 3) => 2
            would(0, 3) => 0
            setSplit(true) => false
            size(3) => 1
            setSplit(true) => true
            size(9) => 2
            hung(1, 0) => 9
            would(0, 3) => 1
            setSplit(false) => true
            size(14) => 8
            undo() => 7
            size(3) => 1
            """);
    }

    private static void changeServices() {
        Script.run("39 setHymn, 40 addHymn, 41 addService", """
            load board 1; card 5 1; service 5 6 => 1
            hang(0) => 1
            setHymn(0, 0, 999) => 5
            hung(0, 0) => 5
            size(9) => 1
            setHymn(0, 1, 1) => 6
            setHymn(0, 2, 1) => -3
            setHymn(0, -1, 1) => -3
            setHymn(0, -2147483648, 1) => -3
            hymn(0, 0) => 999
            size(14) => 3
            addHymn(0, 7) => 3
            addHymn(0, 7) => 4
            addHymn(0, 7) => 5
            addHymn(0, 7) => 6
            addHymn(0, 7) => 7
            addHymn(0, 8) => 8
            addHymn(0, 7) => -2
            hymn(0, 7) => 8
            size(9) => 1
            addService(17) => 1
            hymns(1) => 1
            hymn(1, 0) => 17
            hymn(1, 1) => -1
            setHymn(2, 0, 0)""" + IOOBE + "setHymn(-1, 0, 1)" + IOOBE + "setHymn(0, 0, 0)" + IAE
            + "setHymn(0, 9, 1000)" + IAE + "setHymn(0, 0, -1)" + IAE + "addHymn(2, 0)" + IOOBE + "addHymn(-1, 1)" + IOOBE
            + "addHymn(0, 0)" + IAE + "addHymn(0, 1000)" + IAE + "addHymn(1, 1000)" + IAE + "addService(0)" + IAE
            + "addService(1000)" + IAE + "size(6) => 2\n");
        StringBuilder many = new StringBuilder();
        for (int service = 0; service < 16; service++) {
            many.append("addService(").append(service + 1).append(") => ").append(service).append('\n');
        }
        Script.run("41 addService up to 16", many + "addService(1) => -2\naddService(0)" + IAE
            + "size(6) => 16\nsize(14) => 8\nhymn(15, 0) => 16\nundo() => 7\nsize(6) => 15\nhymns(15)" + IOOBE
            + "addService(3) => 15\nhymns(15) => 1\n");
    }

    private static void parts() {
        Script.run("42 luck, 43 turned", """
            load board 3 turn; card 6 1; card 9 back 9 1; card 1 back 9 1; service 6 6 6 6; service 7 => 2
            luck() => 0.0
            turned() => 0.0
            hang(1) => 0
            luck() => 0.0
            turned() => 0.0
            hang(0) => 3
            luck() => 0.75
            turned() => 0.6666667
            hang(1) => 3
            luck() => 0.6
            turned() => 0.0
            setTurn(false) => true
            hang(0) => 1
            luck() => 0.5
            turned() => 0.0
            """);
    }

    private static void output() {
        Script.run("44 write, 45 writeService, 46 outputByte", """
            load board 1 3 2; card 0 9; card 1 9; service 10 1 101 1; service 999 10 1 100 20 999 888 777 => 2
            write() => 23
            out => ... .../.../... .../...
            hang(0) => 11
            out => ... .../.../... .../...
            write() => 23
            out => .10 .10/..1/101 .10/..1
            lose(1, 2) => 0
            lose(1, 1) => 1
            lose(1, 1) => 1
            write() => 23
            out => .10 .10/..1/101 ..0/...
            outputByte(0) => 46
            outputByte(1) => 49
            outputByte(3) => 32
            outputByte(7) => 47
            outputByte(22) => 46
            outputByte(23) => -1
            outputByte(-1) => -1
            outputByte(2147483647) => -1
            outputByte(-2147483648) => -1
            writeService(0) => 10
            out => 10 1 101 1
            outputByte(10) => -1
            writeService(1) => 27
            out => 999 10 1 100 20 999 888 777
            writeService(2)""" + IOOBE + "writeService(-1)" + IOOBE + "out => 999 10 1 100 20 999 888 777\nload board 6 6 6 => 0\n"
            + "write() => 71\nload board 1; service (999) 8 => 1\nwriteService(0) => 31\noutputByte(30) => 57\noutputByte(31) => -1\n");
    }

    private static void undo() {
        Script.run("47 undo", """
            load board 2; card 1 3; friend 1 1 0 0 0 0 0 0 0 0 0; service 11 => 1
            undo() => -1
            hang(0) => 2
            lose(0, 2) => 1
            write() => 7
            undo() => 1
            size(9) => 2
            card(0, 2) => 3
            place(0, 0, 2, 0) => 1
            out => .1./...
            undo() => 0
            size(8) => -1
            size(11) => 0
            size(12) => 0
            undo() => -1
            addHymn(0, 5) => 2
            borrow(0, 0, 1) => 0
            hold() => -3
            buy(0, 60) => -2
            borrow(0, 0, 1) => -3
            hang(7)""" + IOOBE + """
            size(14) => 2
            setSplit(false) => false
            setTurn(true) => false
            clear() => 0
            addService(4) => 1
            addCard(1, 2, 3) => 1
            setHymn(0, 1, 6) => 5
            buy(0, 1) => 4
            lose(0, 1) => 0
            size(14) => 8
            undo() => 7
            card(0, 2) => 4
            undo() => 6
            card(0, 2) => 3
            undo() => 5
            hymn(0, 1) => 5
            undo() => 4
            size(4) => 1
            undo() => 3
            size(6) => 1
            undo() => 2
            size(2) => 1
            undo() => 1
            size(2) => 0
            setTurn(true) => false
            size(14) => 2
            undo() => 1
            undo() => 0
            undo() => -1
            size(7) => 1
            hymns(0) => 2
            """);
        Script.run("47 undo of hold, giveBack and clear", """
            load board 1; card 1 3; friend 1 1 0 0 0 0 0 0 0 0 0; service 101 => 1
            borrow(0, 0, 1) => 0
            hang(0) => 3
            hold() => 1
            undo() => 2
            size(10) => 0
            size(7) => 1
            lends(0, 0) => 0
            place(0, 0, 1, 1) => 100
            giveBack(0) => 1
            undo() => 2
            loan(0, 2) => 1
            card(100, 3) => 1
            clear() => 3
            undo() => 2
            hung(0, 0) => 101
            size(8) => 0
            card(0, 3) => 2
            """);
    }

    private static void snapshots() {
        Script.run("48 saveSnapshot, 49 restoreSnapshot", """
            load board 2 1 turn; card 6 3; friend 2 1 0 0 0 0 0 0 0 0 0; service 69 => 1
            borrow(0, 0, 1) => 0
            hang(0) => 2
            write() => 11
            hold() => 0
            saveSnapshot(1) => 1
            size(14) => 3
            restoreSnapshot(0) => -1
            size(14) => 3
            setTurn(false) => true
            lose(0, 3) => 2
            hold() => 0
            append(0x6263) => 2
            restoreSnapshot(1) => 1
            size(14) => 0
            undo() => -1
            append(0x63) => 3
            size(2) => 1
            size(10) => 1
            size(9) => 2
            turned() => 0.5
            loan(0, 3) => 1
            hung(0, 0) => 69
            size(11) => 2
            writeService(0) => 2
            load card => -100
            lose(0, 1) => 0
            restoreSnapshot(1) => 1
            loadError() => 1
            out => 69
            card(0, 2) => 3
            lose(0, 2) => 1
            saveSnapshot(0) => 1
            clear() => 1
            size(14) => 2
            load board 1 => 0
            restoreSnapshot(1) => 1
            size(9) => 2
            loadError() => 0
            restoreSnapshot(0) => 1
            size(9) => 1
            holes() => 1
            hold() => 0
            saveSnapshot(0) => 2
            undo() => 0
            size(10) => 1
            restoreSnapshot(0) => 2
            saveSnapshot(2)""" + IAE + "saveSnapshot(-1)" + IAE + "restoreSnapshot(2)" + IAE + "restoreSnapshot(-1)" + IAE);
    }
}
