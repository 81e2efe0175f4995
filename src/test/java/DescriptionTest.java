/** Promises 2 to 5 and section 4: the input buffer, and every error of a description at its place. */
public final class DescriptionTest {
    public static void main(String[] args) {
        append();
        newTexts();
        syntax();
        ranges();
        limits();
        tooManyHymns();
        severalErrors();
        whatLoadChanges();
        Script.end();
    }

    private static void append() {
        Script.run("append", """
            append(0) => 0
            append(0x62) => 1
            append(0x6f00610000720064) => 5
            append(0x2034) => 7
            load => 0
            size(1) => 4
            append(0x6200000000000000) => 1
            append(-1) => 9
            load => -100
            loadError() => 1
            """);
        HymnBoards boards = new HymnBoards();
        for (int times = 1; times <= 62; times++) {
            Script.due("append of 8", boards.append(0x2020202020202020L), 8 * times);
        }
        Script.due("append of 5", boards.append(0x2020202020L), HymnBoards.FULL);
        Script.due("append of 0", boards.append(0L), 496);
        Script.due("append of 4 among zeros", boards.append(0x2000200020002000L), 500);
        Script.due("append of 1", boards.append(1L), HymnBoards.FULL);
        Script.due("append of 0 when full", boards.append(0L), 500);
        Script.due("load of spaces", boards.load(), -600);
        Script.due("buffer emptied", boards.append(0x20L), 1);
    }

    private static void newTexts() {
        Script.run("texts without an error", """
            loadError() => 0
            loadStatement() => -1
            load board 4 => 0
            loadError() => 0
            loadStatement() => -1
            load    board   1   6   2   turn   split   ;   card   1   back   2   3   ; service (  5  ) 2   => 1
            size(0) => 3
            rows(0) => 1
            rows(1) => 6
            rows(2) => 2
            size(2) => 1
            size(3) => 1
            card(0, 0) => 1
            card(0, 1) => 2
            card(0, 2) => 3
            hymns(0) => 2
            load board4;card6back9 60;friend9 0 1 2 3 4 5 6 7 8 20;service(1 2(3)2)2 => 1
            size(2) => 0
            size(3) => 0
            card(0, 1) => 9
            card(0, 2) => 60
            lends(0, 0) => 0
            lends(0, 8) => 8
            lends(0, 9) => 20
            writeService(0) => 15
            out => 1 2 3 3 1 2 3 3
            load board4turn;card0 0 => 0
            size(2) => 1
            size(3) => 0
            card(0, 0) => 0
            card(0, 1) => -1
            card(0, 2) => 0
            load board 4split => 0
            size(2) => 0
            size(3) => 1
            load board 0004; service 0000000000000000999 001 => 1
            hymn(0, 0) => 999
            hymn(0, 1) => 1
            load board 1; service (((1)2)2)2; service (1)1 2 (3)2(4)3 5; service((7)2(8)2)2 => 3
            writeService(0) => 15
            writeService(1) => 15
            out => 1 2 3 3 4 4 4 5
            writeService(2) => 15
            out => 7 7 8 8 7 7 8 8
            load board 1; service (1) 8; service 9 => 2
            hymns(0) => 8
            hymns(1) => 1
            """);
    }

    private static void error(String text, int kind, int position, int statement) {
        HymnBoards boards = new HymnBoards();
        Script.appendText(boards, text);
        Script.due("load of '" + text + "'", boards.load(), -100 - position);
        Script.due("loadError of '" + text + "'", boards.loadError(), kind);
        Script.due("loadStatement of '" + text + "'", boards.loadStatement(), statement);
    }

    private static void syntax() {
        error("", 1, 0, 0);
        error("   ", 1, 3, 0);
        error(";", 1, 0, 0);
        error("board", 1, 5, 0);
        error("board  ", 1, 7, 0);
        error("board;", 1, 5, 0);
        error("board turn", 1, 6, 0);
        error("boar 4", 1, 0, 0);
        error("hoard 4", 1, 0, 0);
        error("board 4 burn", 1, 8, 0);
        error("board 4;bard 1 1", 1, 8, 1);
        error("board 4;card 1 pack 1 1", 1, 15, 1);
        error(" boards 4", 1, 1, 0);
        error("4", 1, 0, 0);
        error("card 1 1", 1, 0, 0);
        error("board 4;", 1, 8, 1);
        error("board 4; ", 1, 9, 1);
        error("board 4;;card 1 1", 1, 8, 1);
        error("board 4;board 4", 1, 8, 1);
        error("board 4 turn turn", 1, 13, 0);
        error("board 4 split turn", 1, 14, 0);
        error("board 4 turn split 4", 1, 19, 0);
        error("board 4 turnsplit", 1, 8, 0);
        error("board 4 card 1 1", 1, 8, 0);
        error("board 4 (", 1, 8, 0);
        error("board 4\n", 1, 7, 0);
        error("board 4 \u00ff", 1, 8, 0);
        error("Board 4", 1, 0, 0);
        error("boArd 4", 1, 0, 0);
        error("board 4;card 1 2A", 1, 16, 1);
        error("board 4;card", 1, 12, 1);
        error("board 4;card 1", 1, 14, 1);
        error("board 4;card 1 back", 1, 19, 1);
        error("board 4;card 1 back 2", 1, 21, 1);
        error("board 4;card 1 2 back 2", 1, 17, 1);
        error("board 4;card 1 2 3", 1, 17, 1);
        error("board 4;card back 2", 1, 13, 1);
        error("board 4;card 1;", 1, 14, 1);
        error("board 4;cards 1 1", 1, 8, 1);
        error("board 4;friend 1 0 0 0 0 0 0 0 0 0", 1, 34, 1);
        error("board 4;friend 1 0 0 0 0 0 0 0 0 0;", 1, 34, 1);
        error("board 4;friend 1 0 0 0 0 0 0 0 0 0 0 0", 1, 37, 1);
        error("board 4;friend", 1, 14, 1);
        error("board 4;service", 1, 15, 1);
        error("board 4;service ;", 1, 16, 1);
        error("board 4;service ()", 1, 17, 1);
        error("board 4;service 1 ()2", 1, 19, 1);
        error("board 4;service (1 ()2)2", 1, 20, 1);
        error("board 4;service (1", 1, 18, 1);
        error("board 4;service (1;", 1, 18, 1);
        error("board 4;service (1)", 1, 19, 1);
        error("board 4;service (1);", 1, 19, 1);
        error("board 4;service (1))", 1, 19, 1);
        error("board 4;service (1)(2)", 1, 19, 1);
        error("board 4;service (1) 2)", 1, 21, 1);
        error("board 4;service 1)", 1, 17, 1);
        error("board 4;service )", 1, 16, 1);
        error("board 4;service ((1) 2", 1, 22, 1);
        error("board 4;service ((1) 2)", 1, 23, 1);
        error("board 4;service 1 turn", 1, 18, 1);
        error("board 4;service (a", 1, 17, 1);
        error("board 4;service 1-2", 1, 17, 1);
        error("board 4;service 1; card 1 1 ;x", 1, 29, 3);
        error("board 4;service 1;service 2;serv", 1, 28, 3);
    }

    private static void ranges() {
        error("board 0", 2, 6, 0);
        error("board 7", 2, 6, 0);
        error("board 6 1 07", 2, 10, 0);
        error("board 99999999999999999999", 2, 6, 0);
        error("board 4294967297", 2, 6, 0);
        error("board 4;card 10 1", 2, 13, 1);
        error("board 4;card 1 back 10 1", 2, 20, 1);
        error("board 4;card 1 61", 2, 15, 1);
        error("board 4;card 1 back 1 61", 2, 22, 1);
        error("board 4;friend 0 0", 2, 15, 1);
        error("board 4;friend 10 0", 2, 15, 1);
        error("board 4;friend 1 21", 2, 17, 1);
        error("board 4;friend 1 0 0 0 0 0 0 0 0 0 21", 2, 35, 1);
        error("board 4;service 0", 2, 16, 1);
        error("board 4;service 1000", 2, 16, 1);
        error("board 4;service (0", 2, 17, 1);
        error("board 4;service (1) 0", 2, 20, 1);
        error("board 4;service (1) 9", 2, 20, 1);
        error("board 4;card 9 60;card 0 0;service 999 1;friend 9 20 20 20 20 20 20 20 20 20 20 0", 1, 80, 4);
    }

    private static void limits() {
        error("board 1 2 3 4", 3, 12, 0);
        error("board 1 2 3 4x", 3, 12, 0);
        String cards = "board 4" + ";card 1 1".repeat(12);
        error(cards + "; card", 3, 7 + 12 * 9 + 2, 13);
        error(cards + "; cards", 1, 7 + 12 * 9 + 2, 13);
        error(cards + ";", 1, 7 + 12 * 9 + 1, 13);
        String friends = "board 4" + ";friend 1 0 0 0 0 0 0 0 0 0 0".repeat(3);
        error(friends + ";friend 99", 3, 7 + 3 * 29 + 1, 4);
        String services = "board 4" + ";service 1".repeat(16);
        error(services + ";   service A", 3, 7 + 16 * 10 + 4, 17);
        error("board 4;service ((((1)1)1)1)1", 3, 19, 1);
        error("board 4;service (((1)1)1)1(((", 1, 29, 1);
        error("board 4;service (((1)1)1)1((((", 3, 29, 1);
        error("board 4;service (((1)1(1)1(", 1, 27, 1);
        error("board 4;service (((1)1((", 3, 23, 1);
        Script.run("as many as may be", "load " + cards + " => 0\nsize(4) => 12");
        Script.run("as many as may be", "load " + friends + " => 0\nsize(5) => 3");
        Script.run("as many as may be", "load " + services + " => 16\nsize(6) => 16");
    }

    private static void tooManyHymns() {
        error("board 4;service 1 2 3 4 5 6 7 8 9", 4, 32, 1);
        error("board 4;service (1) 8 9", 4, 22, 1);
        error("board 4;service (1 2 3) 3", 4, 24, 1);
        error("board 4;service 1 ((1 2) 2) 2", 4, 28, 1);
        error("board 4;service 1 (1) 8", 4, 22, 1);
        error("board 4;service (1 2 3 4 5 6 7 8 9) 1", 4, 33, 1);
        error("board 4;service 1 2 3 4 5 6 7 (8 9) 1", 4, 33, 1);
        error("board 4;service 1 2 3 4 5 6 7 8 (", 1, 33, 1);
        error("board 4;service 1 2 3 4 5 6 7 8 (x", 1, 33, 1);
        error("board 4;service ((1) 4 (2) 4 3", 4, 29, 1);
        error("board 4;service (((1 1) 2) 2) 2", 4, 30, 1);
        Script.run("eight hymns", "load board 4;service 1 2 3 4 5 6 7 (8)1;service ((1 1)2(3)4)1 => 2\nhymns(0) => 8");
    }

    private static void severalErrors() {
        error("board 1 2 3 9", 2, 12, 0);
        error("board 4;service 1 2 3 4 5 6 7 8 1000", 2, 32, 1);
        error("board 4;service (1 2 3) 9", 2, 24, 1);
        error("board 9 A", 2, 6, 0);
        error("board A 9", 1, 6, 0);
        error("board 4;service ((((1", 3, 19, 1);
        error("board 4;service 1 2 3 4 5 6 7 8 9 (((( 1000", 4, 32, 1);
    }

    private static void whatLoadChanges() {
        Script.run("load begins anew", """
            load board 2; card 1 3; friend 2 0 1 0 0 0 0 0 0 0 0; service 1 11; service 1111 => -171
            loadError() => 2
            loadStatement() => 4
            size(1) => 4
            load board 2; card 1 3; friend 2 0 1 0 0 0 0 0 0 0 0; service 1 11; service 111 => 2
            loadError() => 0
            borrow(0, 1, 1) => 0
            hang(0) => 3
            hold() => 0
            saveSnapshot(0) => 1
            write() => 7
            size(14) => 3
            append(0x62) => 1
            load => -100
            size(14) => 3
            size(7) => 1
            size(8) => 0
            size(9) => 3
            loadError() => 1
            loadStatement() => 0
            undo() => 2
            loadError() => 1
            out => ..1/.11
            load board 1 => 0
            size(8) => -1
            size(9) => 0
            size(10) => 0
            size(11) => 0
            size(12) => 0
            size(13) => 0
            size(14) => 0
            size(4) => 0
            size(5) => 0
            size(6) => 0
            size(7) => 0
            holes() => 0
            hung(0, 0) => -1
            place(0, 0, 2, 0) => -1
            undo() => -1
            out => ..1/.11
            loadError() => 0
            restoreSnapshot(0) => 1
            size(9) => 3
            """);
    }
}
