import java.util.List;

/** The boundary cases that section 4 of the document names, and the promises about descriptions, 1 to 5. */
final class DescriptionEdges {
    private static final String CANNOT_STAND =
        "Error 1: a byte, word or number cannot stand at its place (position of its first byte)";
    private static final String TOO_EARLY = "or the text ends too early (position: its length)";
    private static final String OUT_OF_RANGE = "Error 2: a number is out of its range (position of its first digit)";
    private static final String ONE_MORE = "Error 3: a thirteenth card, a fourth friend, a seventeenth service "
        + "(position of the statement's first byte, found ahead of all that follows)";
    private static final String FOURTH_ROWS = "a fourth ROWS (position of its first digit)";
    private static final String FOURTH_BRACKET = "a fourth bracket that would be open (position of it)";
    private static final String NINTH_HYMN = "Error 4: a service would have more than 8 hymns "
        + "(position of the hymn with which that would be";
    private static final String BY_REPEATS = "of N, if it is by the repeats";
    private static final String COUNTS_ONCE = "what is in brackets counts once up to its N";
    private static final String AT_ONE_PLACE = "Of several errors at one place the one with the smaller number counts";
    private static final String WHOLE = "board 1 2 3 turn split;card 1 back 2 3;friend 1 0 1 2 3 4 5 6 7 8 9;"
        + "service 1(2(3(4)1)1)1 5";
    private static final String CARDS = "board 4" + ";card 1 1".repeat(12);
    private static final String FRIENDS = "board 4" + ";friend 1 0 0 0 0 0 0 0 0 0 0".repeat(3);
    private static final String SERVICES = "board 4" + ";service 1".repeat(16);

    private DescriptionEdges() { }

    static void all() {
        newObject();
        buffer();
        bytesThatStandNowhere();
        textsThatEndTooEarly();
        wordsAndNumbersOutOfPlace();
        spaces();
        ranges();
        oneMore();
        brackets();
        tooManyHymns();
        severalErrors();
        statements();
        loading();
    }

    private static void newObject() {
        String name = Edges.name(1, "A new object is as by the text \"board 4\" || Creates boards as told in section 4");
        Script made = new Script();
        Script loaded = new Script();
        loaded.answer("load board 4");
        Script.due(name, Look.at(made, true, true), Look.at(loaded, true, true));
        Edges.edge(1, "with an empty input buffer, an empty output and no snapshots", """
            append(0) => 0
            outputByte(0) | outputByte(-1) => -1
            restoreSnapshot(0) | restoreSnapshot(1) => -1
            load => -100
            """);
    }

    private static String appendedUpTo496() {
        StringBuilder lines = new StringBuilder();
        for (int length = 8; length <= 496; length += 8) {
            lines.append("append(0x2020202020202020) => ").append(length).append('\n');
        }
        return lines.toString();
    }

    private static void buffer() {
        String sentence = "bytes: the bytes || FULL if it would exceed 500";
        Edges.edge(2, sentence, appendedUpTo496() + """
            append(0x2020202020202020) | append(-1) | append(0x2020202020) => -2
            append(0) => 496
            append(0x20202020) => 500
            append(0x20) | append(-1) | append(0x0100000000000000) | append(1) | append(0x80) | append(0x0001000000000000) => -2
            append(0) => 500
            load => -600
            loadError() => 1
            append(0) => 0
            append(0x2020202020202020) => 8
            """);
        Edges.edge(2, sentence, appendedUpTo496() + """
            append(0x202020) => 499
            append(0x2020) | append(0x2000000000000020) => -2
            append(0x2000) => 500
            append(0x2000) => -2
            """);
        Edges.edge(2, sentence, "text " + " ".repeat(489) + "board 4\n" + """
            append(0x3b78797a77) => -2
            append(0) => 496
            load => 0
            """);
        Edges.edge(2, "Returns the new length of the buffer", """
            append(0) => 0
            append(0x20) => 1
            append(0x2020202020202020) => 9
            append(0) => 9
            """);
        Edges.edge(2, "Appends bytes to the input buffer: the 8 bytes of a number, the most significant byte first, "
            + "where bytes that are 0 are left out", """
            append(0x626f006172006400) => 5
            append(0x0034000000000000) => 6
            load => 0
            append(0x6400720061006f62) => 5
            load => -100
            append(0x626f617264203132) => 8
            load => -106
            append(0x626f61726420003b) => 7
            load => -106
            append(-9223372036854775808) => 1
            load => -100
            append(0x00000000000000ff) => 1
            append(0x0000000001000000) => 2
            append(0) => 2
            """);
    }

    /** At each place of a text a byte that can stand nowhere is put in; inside of a word it cuts the word short. */
    private static void bytesThatStandNowhere() {
        char[] bytes = {1, 9, 10, 31, 33, 39, 42, '/', ':', '<', '@', 'A', 'Z', '[', '`', '{', 127, 128, 160, 255};
        for (char wrong : bytes) {
            for (int at = 0; at <= WHOLE.length(); at++) {
                int position = at;
                if (at > 0 && at < WHOLE.length() && isLetter(at)) {
                    while (position > 0 && isLetter(position - 1)) {
                        position--;
                    }
                }
                String text = WHOLE.substring(0, at) + wrong + WHOLE.substring(at);
                Edges.error(4, CANNOT_STAND, text, 1, position, semicolonsAhead(WHOLE, position));
            }
        }
        Edges.error(4, CANNOT_STAND, "board 4-", 1, 7, 0);
        Edges.error(4, CANNOT_STAND, "-4", 1, 0, 0);
        Edges.error(4, CANNOT_STAND, "board -4", 1, 6, 0);
        Edges.error(4, CANNOT_STAND, "board +4", 1, 6, 0);
    }

    private static boolean isLetter(int at) {
        return WHOLE.charAt(at) >= 'a' && WHOLE.charAt(at) <= 'z';
    }

    private static int semicolonsAhead(String text, int position) {
        return (int) text.substring(0, position).chars().filter(sign -> sign == ';').count();
    }

    /** Each beginning of a text that ends behind a word, a number or a sign; the number of services if it is whole. */
    private static void textsThatEndTooEarly() {
        Edges.error(3, TOO_EARLY, "", 1, 0, 0);
        Edges.error(3, TOO_EARLY, " ", 1, 1, 0);
        Edges.error(3, TOO_EARLY, " ".repeat(500), 1, 500, 0);
        Edges.error(3, TOO_EARLY, "board 4;" + " ".repeat(492), 1, 500, 1);
        Edges.error(3, TOO_EARLY, "board" + " ".repeat(494), 1, 499, 0);
        Edges.fine(3, TOO_EARLY, "board 4" + " ".repeat(493), 0);
        String[] whole = {"board 1", "board 1 2", "board 1 2 3", "board 1 2 3 turn", "board 1 2 3 turn split",
            ";card 1 back 2 3", ";friend 1 0 1 2 3 4 5 6 7 8 9", ";service 1", ";service 1(2(3(4)1)1)1", WHOLE};
        for (int length = 1; length <= WHOLE.length(); length++) {
            if (length < WHOLE.length() && isLetter(length) && isLetter(length - 1)) {
                continue;
            }
            String text = WHOLE.substring(0, length);
            boolean fine = false;
            for (String end : whole) {
                fine |= text.strip().equals(WHOLE.substring(0, WHOLE.indexOf(end) + end.length()));
            }
            for (String more : new String[] {"", " ", "   "}) {
                if (fine) {
                    Edges.fine(3, TOO_EARLY, text + more, text.contains("service") ? 1 : 0);
                } else {
                    Edges.error(3, TOO_EARLY, text + more, 1, length + more.length(), semicolonsAhead(text, length));
                }
            }
        }
    }

    /** At each place the tokens for which error 1 is not due; all others, and the end (""), can't stand there. */
    private static void wordsAndNumbersOutOfPlace() {
        place("", 0, "board");
        place("board ", 0, "1");
        place("board 4 ", 0, "1", "turn", "split", ";", "");
        place("board 4 1 ", 0, "1", "turn", "split", ";", "");
        place("board 4 1 1 ", 0, "1", "turn", "split", ";", "");
        place("board 4 turn ", 0, "split", ";", "");
        place("board 4 turn split ", 0, ";", "");
        place("board 4 split ", 0, ";", "");
        place("board 4;", 1, "card", "friend", "service");
        place("board 4;card ", 1, "1");
        place("board 4;card 1 ", 1, "1", "back");
        place("board 4;card 1 back ", 1, "1");
        place("board 4;card 1 back 1 ", 1, "1");
        place("board 4;card 1 1 ", 1, ";", "");
        place("board 4;card 1 back 1 1 ", 1, ";", "");
        for (int numbers = 0; numbers <= 10; numbers++) {
            place("board 4;friend " + "1 ".repeat(numbers), 1, "1");
        }
        place("board 4;friend 1 1 1 1 1 1 1 1 1 1 1 ", 1, ";", "");
        place("board 4;service ", 1, "1", "(");
        place("board 4;service (", 1, "1", "(");
        place("board 4;service ((", 1, "1", "(");
        place("board 4;service (((", 1, "1", "(");
        place("board 4;service 1 ", 1, "1", "(", ";", "");
        place("board 4;service 1 (", 1, "1", "(");
        place("board 4;service (1 (", 1, "1", "(");
        place("board 4;service (1)1 ((", 1, "1", "(");
        place("board 4;service (1 ", 1, "1", "(", ")");
        place("board 4;service ((1)", 1, "1");
        place("board 4;service ((1)1 ", 1, "1", "(", ")");
        place("board 4;service (((1)", 1, "1");
        place("board 4;service (1)", 1, "1");
        place("board 4;service (1)1 ", 1, "1", "(", ";", "");
        place("board 4;service 1 2 3 4 5 6 7 8 ", 1, "1", "(", ";", "");
        place("board 4;service 1;", 2, "card", "friend", "service");
    }

    private static void place(String ahead, int statement, String... may) {
        String[] tokens = {"board", "turn", "split", "card", "back", "friend", "service", "a", "z", "turnsplit", "boards",
            "hoard", "boarr", "boar", "bard", "burn", "turk", "tun", "turns", "aplit", "splin", "splits", "hard", "care",
            "car", "cards", "pack", "bach", "bac", "backs", "griend", "frient", "frien", "friends", "servica", "nervice",
            "servic", "services", "1", "0", "99999999999", "(", ")", ";", ""};
        for (String token : tokens) {
            boolean isNumber = !token.isEmpty() && kind(token) == 'n';
            if (List.of(may).contains(isNumber ? "1" : token)) {
                continue;
            }
            Edges.error(4, token.isEmpty() ? TOO_EARLY : CANNOT_STAND, ahead + token, 1, ahead.length(), statement);
            Edges.error(4, token.isEmpty() ? TOO_EARLY : CANNOT_STAND, ahead + "  " + token, 1, ahead.length() + 2, statement);
            if (!token.isEmpty()) {
                Edges.error(4, CANNOT_STAND, ahead + token + " ;A", 1, ahead.length(), statement);
            }
        }
    }

    private static void spaces() {
        String sentence = "they are required only between two words and between two numbers";
        String[] tokens = WHOLE.replace("(", " ( ").replace(")", " ) ").replace(";", " ; ").trim().split(" +");
        for (int wide = 0; wide <= 2; wide++) {
            StringBuilder text = new StringBuilder(" ".repeat(wide));
            for (int index = 0; index < tokens.length; index++) {
                boolean alike = index > 0 && kind(tokens[index]) == kind(tokens[index - 1]) && kind(tokens[index]) != 's';
                text.append(" ".repeat(alike && wide == 0 ? 1 : wide)).append(tokens[index]);
            }
            Edges.fine(4, sentence, text.toString(), 1);
            Edges.fine(4, "Spaces (byte 32) may stand before and after words, numbers, brackets and semicolons",
                text + " ".repeat(wide), 1);
        }
        Edges.edge(4, sentence, """
            load board4turn split;card5back6 7;card8 9;friend1 0 0 0 0 0 0 0 0 0 20;service1(2 3)2 4;service(5)1 => 2
            size(2) | size(3) => 1
            card(0, 0) => 5
            card(0, 1) => 6
            card(0, 2) => 7
            card(1, 0) => 8
            card(1, 1) => -1
            card(1, 2) => 9
            lends(0, 9) => 20
            hymns(0) => 6
            writeService(0) => 11
            out => 1 2 3 2 3 4
            hymn(1, 0) => 5
            """);
        Edges.error(4, "A word is a maximal run of lower-case letters", "board 4 turnsplit", 1, 8, 0);
        Edges.error(4, "A word is a maximal run of lower-case letters", "board 4;card 1 backback 1 1", 1, 15, 1);
        Edges.error(4, "A word is a maximal run of lower-case letters", "boar d 4", 1, 0, 0);
        Edges.error(4, "A word is a maximal run of lower-case letters", "boardturn 4", 1, 0, 0);
        Edges.error(4, "a number a maximal run of digits", "board 12", 2, 6, 0);
        Edges.error(4, "a number a maximal run of digits", "board 4;card 12", 2, 13, 1);
        Edges.fine(4, "a number a maximal run of digits", "board 000000000000000000000000006;card 00 0000000060", 0);
        Edges.error(4, "turn and split turn TURN and SPLIT on; it stands only there", "board 4;board 4", 1, 8, 1);
        Edges.error(4, "turn and split turn TURN and SPLIT on; it stands only there", "card 1 1;board 4", 1, 0, 0);
        Edges.error(4, "turn and split turn TURN and SPLIT on; it stands only there", "board 4 split turn", 1, 14, 0);
        Edges.error(4, "turn and split turn TURN and SPLIT on; it stands only there", "board 4;card 1 1 turn", 1, 17, 1);
        Edges.edge(4, "board ROWS { ROWS } [ turn ] [ split ] - 1 to 6 each, 1 to 3 of them", """
            load board 1 => 0
            size(2) | size(3) => 0
            load board 6 turn => 0
            size(2) => 1
            size(3) => 0
            load board 1 1 split => 0
            size(2) => 0
            size(3) => 1
            load board 6 6 6 turn split => 0
            size(2) | size(3) => 1
            size(1) => 18
            """);
        Edges.edge(4, "A description is a list of one or more statements, separated by semicolons", """
            load board 4 => 0
            load board 4;service 1 => 1
            load board 4; => -108
            load ;board 4 => -100
            load board 4;;service 1 => -108
            """);
    }

    private static char kind(String token) {
        char first = token.charAt(0);
        return first >= 'a' && first <= 'z' ? 'w' : first >= '0' && first <= '9' ? 'n' : 's';
    }

    /** A number at each place: the least and the greatest one are fine, one less and one more are not. */
    private static void ranges() {
        String board = "board ROWS { ROWS } [ turn ] [ split ] - 1 to 6 each, 1 to 3 of them";
        range(board, "board ", "", 1, 6, 0, 0);
        range(board, "board 1 ", "", 1, 6, 0, 0);
        range(board, "board 1 1 ", "", 1, 6, 0, 0);
        String card = "card FRONT [ back BACK ] COUNT";
        range(card, "board 4;card ", " 1", 0, 9, 1, 0);
        range(card, "board 4;card 1 back ", " 1", 0, 9, 1, 0);
        range(card, "board 4;card 1 ", "", 0, 60, 1, 0);
        range(card, "board 4;card 1 back 1 ", "", 0, 60, 1, 0);
        String friend = "friend TERM and ten numbers, 0 to 20 each: the cards of the digits 0 to 9";
        range(friend, "board 4;friend ", " 0 0 0 0 0 0 0 0 0 0", 1, 9, 1, 0);
        for (int digit = 0; digit < 10; digit++) {
            range(friend, "board 4;friend 1" + " 0".repeat(digit) + " ", " 0".repeat(9 - digit), 0, 20, 1, 0);
        }
        String service = "service PART { PART } - a PART is a hymn";
        range(service, "board 4;service ", "", 1, 999, 1, 1);
        range(service, "board 4;service 1 2 3 4 5 6 7 ", "", 1, 999, 1, 1);
        range(service, "board 4;service (", ")1", 1, 999, 1, 1);
        range(service, "board 4;service (((", ")1)1)1", 1, 999, 1, 1);
        range(service, "board 4;service 1;service ", "", 1, 999, 2, 2);
        String repeats = "what is in the brackets N times, 1 to 8";
        range(repeats, "board 4;service (7)", "", 1, 8, 1, 1);
        range(repeats, "board 4;service (((7)1)1)", "", 1, 8, 1, 1);
        range(repeats, "board 4;service (((7)", ")1)1", 1, 8, 1, 1);
    }

    private static void range(String sentence, String ahead, String behind, int least, int most, int statement, int services) {
        String both = sentence + " || " + OUT_OF_RANGE;
        Edges.fine(4, both, ahead + least + behind, services);
        Edges.fine(4, both, ahead + most + behind, services);
        Edges.fine(4, both, ahead + "000" + most + behind, services);
        String[] wrong = {String.valueOf(most + 1), "2147483648", "4294967297", "18446744073709551617", "1" + "0".repeat(40)};
        for (String number : wrong) {
            Edges.error(4, both, ahead + number + behind, 2, ahead.length(), statement);
            Edges.error(4, both, ahead + "  " + number + " A", 2, ahead.length() + 2, statement);
        }
        if (least > 0) {
            Edges.error(4, both, ahead + "0" + behind, 2, ahead.length(), statement);
            Edges.error(4, both, ahead + "00" + behind, 2, ahead.length(), statement);
        }
    }

    private static void oneMore() {
        Edges.fine(4, ONE_MORE, CARDS, 0);
        Edges.fine(4, ONE_MORE, FRIENDS, 0);
        Edges.fine(4, ONE_MORE, SERVICES, 16);
        oneMore(CARDS, "card", 13);
        oneMore(FRIENDS, "friend", 4);
        oneMore(SERVICES, "service", 17);
        Edges.fine(4, ONE_MORE, CARDS + FRIENDS.substring(7) + SERVICES.substring(7), 16);
        Edges.error(4, ONE_MORE, CARDS + FRIENDS.substring(7) + SERVICES.substring(7) + ";card 10", 3,
            CARDS.length() + FRIENDS.length() + SERVICES.length() - 13, 32);
        Edges.error(4, FOURTH_ROWS, "board 1 2 3 4", 3, 12, 0);
        Edges.error(4, FOURTH_ROWS, "board 1 2 3   1 turn", 3, 14, 0);
        Edges.error(4, FOURTH_ROWS, "board 6 6 6 6;", 3, 12, 0);
        Edges.error(4, FOURTH_ROWS, "board 1 2 3 04 99", 3, 12, 0);
        Edges.fine(4, FOURTH_ROWS, "board 1 2 3", 0);
    }

    private static void oneMore(String full, String word, int statement) {
        for (String behind : new String[] {"", " ", " 999", " 1 back 99", "A", ";", " (((("}) {
            Edges.error(4, ONE_MORE, full + ";" + word + behind, 3, full.length() + 1, statement);
            Edges.error(4, ONE_MORE, full + ";   " + word + behind, 3, full.length() + 4, statement);
        }
        Edges.error(4, ONE_MORE, full + ";" + word + "s 1 1", 1, full.length() + 1, statement);
        Edges.error(4, ONE_MORE, full + ";" + word.substring(1), 1, full.length() + 1, statement);
        Edges.error(4, ONE_MORE, full + ";", 1, full.length() + 1, statement);
    }

    private static void brackets() {
        String sentence = "At most 3 brackets are open at the same time";
        Edges.edge(4, sentence, """
            load board 4;service (((1)1)1)1;service (((1)1)1)1(((2)2)1)1 (((3)1 4)1)1 => 2
            hymns(0) => 1
            writeService(1) => 9
            out => 1 2 2 3 4
            """);
        Edges.error(4, FOURTH_BRACKET, "board 4;service ((((1)1)1)1)1", 3, 19, 1);
        Edges.error(4, FOURTH_BRACKET, "board 4;service (((1(", 3, 20, 1);
        Edges.error(4, FOURTH_BRACKET, "board 4;service (((1)1(2)1(", 1, 27, 1);
        Edges.error(4, FOURTH_BRACKET, "board 4;service (((1)1((", 3, 23, 1);
        Edges.error(4, FOURTH_BRACKET, "board 4;service (((1)1)1)1 ((( (", 3, 31, 1);
        Edges.error(4, FOURTH_BRACKET, "board 4;service (((1)1)1)1;service ((((", 3, 38, 2);
        Edges.error(4, FOURTH_BRACKET, "board 4;service 1 2 3 4 5 6 7 8((((", 3, 34, 1);
        Edges.edge(4, "or ( PART { PART } ) N: what is in the brackets N times, 1 to 8", """
            load board 4;service (5)1;service (5)8;service (1 2)4;service (1 2 3 4 5 6 7 8)1;service ((1)2 3)2 => 5
            hymns(0) => 1
            hymns(1) | hymns(2) | hymns(3) => 8
            hymn(1, 7) => 5
            writeService(2) => 15
            out => 1 2 1 2 1 2 1 2
            writeService(4) => 11
            out => 1 1 3 1 1 3
            load board 4;service (5)0 => -119
            load board 4;service (5)9 => -119
            loadError() => 2
            load board 4;service (5) => -119
            loadError() => 1
            """);
    }

    private static void tooManyHymns() {
        Edges.fine(4, NINTH_HYMN, "board 4;service 1 2 3 4 5 6 7 8", 1);
        Edges.error(4, NINTH_HYMN, "board 4;service 1 2 3 4 5 6 7 8 9", 4, 32, 1);
        Edges.error(4, NINTH_HYMN, "board 4;service 1 2 3 4 5 6 7 8 9 10 11 0", 4, 32, 1);
        Edges.error(4, NINTH_HYMN, "board 4;service (1)8 9", 4, 21, 1);
        Edges.error(4, NINTH_HYMN, "board 4;service (1)8(9", 4, 21, 1);
        Edges.error(4, NINTH_HYMN, "board 4;service (1)8(((  9", 4, 25, 1);
        Edges.error(4, NINTH_HYMN, "board 4;service 1;service 1 2 3 4 5 6 7 8 999", 4, 42, 2);
        Edges.error(4, BY_REPEATS, "board 4;service (1 2 3)3", 4, 23, 1);
        Edges.fine(4, BY_REPEATS, "board 4;service (1 2 3)2 4 5", 1);
        Edges.error(4, BY_REPEATS, "board 4;service 1(2)8", 4, 20, 1);
        Edges.fine(4, BY_REPEATS, "board 4;service 1(2)7", 1);
        Edges.error(4, BY_REPEATS, "board 4;service 1 2 3 4 5 6 7(8)2", 4, 32, 1);
        Edges.error(4, BY_REPEATS, "board 4;service (1 2 3 4 5)  2", 4, 29, 1);
        Edges.error(4, BY_REPEATS, "board 4;service ((1 2)3)2", 4, 24, 1);
        Edges.error(4, BY_REPEATS, "board 4;service (((1)2)2)3", 4, 25, 1);
        Edges.fine(4, BY_REPEATS, "board 4;service (((1)2)2)2", 1);
        Edges.fine(4, COUNTS_ONCE, "board 4;service 1 2 3 4 5 6(7 8)1", 1);
        Edges.error(4, COUNTS_ONCE, "board 4;service 1 2 3 4 5 6 7(8 9)1", 4, 32, 1);
        Edges.error(4, COUNTS_ONCE, "board 4;service (1 2 3 4 5 6 7 8 9)1", 4, 33, 1);
        Edges.error(4, COUNTS_ONCE, "board 4;service (1 2 3 4 5 6 7 8)2", 4, 33, 1);
        Edges.error(4, COUNTS_ONCE, "board 4;service ((1 2)3 7 8)2", 4, 28, 1);
        Edges.error(4, COUNTS_ONCE, "board 4;service ((1 2)3 7 8 9)1", 4, 28, 1);
        Edges.error(4, COUNTS_ONCE, "board 4;service (1 2 3 4 5 6 7 (8)1 9", 4, 36, 1);
    }

    private static void severalErrors() {
        Edges.error(4, AT_ONE_PLACE, "board 1 2 3 0", 2, 12, 0);
        Edges.error(4, AT_ONE_PLACE, "board 1 2 3 7", 2, 12, 0);
        Edges.error(4, AT_ONE_PLACE, "board 4;service 1 2 3 4 5 6 7 8 0", 2, 32, 1);
        Edges.error(4, AT_ONE_PLACE, "board 4;service 1 2 3 4 5 6 7 8 1000", 2, 32, 1);
        Edges.error(4, AT_ONE_PLACE, "board 4;service (1 2 3)9", 2, 23, 1);
        Edges.error(4, AT_ONE_PLACE, "board 4;service 1 2 3 4 5 6 7(8)  10", 2, 34, 1);
        Edges.error(4, AT_ONE_PLACE, "board 4;service (((1)(", 1, 21, 1);
        String first = "The text is read from left to right; the first error ends it";
        Edges.error(4, first, "board 9 9", 2, 6, 0);
        Edges.error(4, first, "board 4 x;card 10", 1, 8, 0);
        Edges.error(4, first, "board 4;card 10 61;service", 2, 13, 1);
        Edges.error(4, first, "board 1 1 1 1;service ((((", 3, 12, 0);
        Edges.error(4, first, "board 4;service ((((0", 3, 19, 1);
        Edges.error(4, first, "board 4;service 0((((", 2, 16, 1);
        Edges.error(4, first, "board 4;service 1 2 3 4 5 6 7 8 9 0 A", 4, 32, 1);
        Edges.error(4, first, CARDS + ";friend 1 0 0 0 0 0 0 0 0 0 21;card", 2, CARDS.length() + 28, 13);
    }

    private static void statements() {
        String behind = "A byte behind a statement that is no semicolon belongs to that statement";
        Edges.error(5, behind, "board 4 )", 1, 8, 0);
        Edges.error(5, behind, "board 4;card 1 1 1", 1, 17, 1);
        Edges.error(5, behind, "board 4;friend 1 0 0 0 0 0 0 0 0 0 0 A", 1, 37, 1);
        Edges.error(5, behind, "board 4;service 1;service 1)", 1, 27, 2);
        String next = "what follows a semicolon belongs to the next one, also the end of the text";
        Edges.error(5, next, "board 4;", 1, 8, 1);
        Edges.error(5, next, "board 4;  ", 1, 10, 1);
        Edges.error(5, next, "board 4;;", 1, 8, 1);
        Edges.error(5, next, "board 4;service 1; ;", 1, 19, 2);
        Edges.error(5, next, "board 4;service 1;A", 1, 18, 2);
        Edges.error(5, next, SERVICES + ";", 1, SERVICES.length() + 1, 17);
        Edges.error(5, "Returns the index of the statement, from 0", "", 1, 0, 0);
        Edges.error(5, "Returns the index of the statement, from 0", ";", 1, 0, 0);
        Edges.edge(5, "Returns in which statement the latest call of load() found its error || "
            + "NONE if the text had no error or there was no such call", """
            loadStatement() => -1
            append(0x3b) => 1
            loadStatement() => -1
            load => -100
            loadStatement() => 0
            load board 4;card => -112
            loadStatement() => 1
            load board 4 => 0
            loadStatement() => -1
            load board 4;card 1 1;x => -117
            loadStatement() => 2
            """);
        Edges.edge(4, "Returns the kind of the error of the latest call of load() || Returns 1 to 4 (section 4); "
            + "0 if the text had no error or there was no such call", """
            loadError() => 0
            append(0x3b) => 1
            loadError() => 0
            load => -100
            loadError() => 1
            load board 7 => -106
            loadError() => 2
            load board 1 1 1 1 => -112
            loadError() => 3
            load board 4;service (1 2 3)3 => -123
            loadError() => 4
            load board 4 => 0
            loadError() => 0
            """);
    }

    private static void loading() {
        Edges.edge(3, "Returns the number of services", "load board 1 => 0\nload " + SERVICES + " => 16\nsize(6) => 16\n"
            + "load board 1;service 1 => 1\nsize(6) => 1\nhymns(1) => throws.IndexOutOfBoundsException\n");
        Edges.edge(3, "-100 minus the position of the error if the text has one", """
            load => -100
            load A => -100
            load board => -105
            load board 7 => -106
            """ + "text " + " ".repeat(492) + ";board 7\nload => -592\n"
            + "new\nload board 4" + " ".repeat(489) + "turn => 0\nsize(2) => 1\n"
            + "new\nload board 4" + " ".repeat(492) + "x => -599\nloadStatement() => 0\n"
            + "new\nload board 4" + " ".repeat(492) + "6 => 0\nrows(1) => 6\n"
            + "new\nload board 4" + " ".repeat(490) + "666 => -597\nnew\nload board 4" + " ".repeat(492) + "; => -600\n");
        Edges.edge(3, "The buffer is emptied, also on an error", """
            append(0x20) => 1
            load => -101
            append(0) => 0
            load board 4 => 0
            append(0) => 0
            load => -100
            append(0) => 0
            load board 4;card 1 61;service 1 => -115
            append(0x20) => 1
            """);
        Edges.edge(3, "Reads the input buffer as a description (section 4) and begins anew", """
            load board 4444 => -106
            load board 4 => 0
            load board 1;service 99 => 1
            hymn(0, 0) => 99
            load board 1;service 9 => 1
            hymn(0, 0) => 9
            load board 1 turn => 0
            load board 1 t => -108
            load board 1;service ((( => -119
            load board 1;service 1) => -117
            load board 1;service ((1 => -119
            load board 1;service (((1)1)1)1 => 1
            load board 1;service (((1)2)2)2 2 => -127
            load board 1;service (((1)2)2)1 2 => 1
            hymns(0) => 5
            load board 1;card 5 back 6 7;card 5 => -130
            load board 1;card 5 7;friend 1 1 1 1 1 1 1 1 1 1 1;service 5 => 1
            card(0, 1) => -1
            load board 1;friend 2 0 0 0 0 0 0 0 0 0 0 => 0
            lends(0, 0) | lends(0, 9) => 0
            size(4) | size(6) => 0
            """);
        Edges.edge(3, "nothing hangs, all sums are 0, there are no loans, nothing can be taken back", """
            load board 1; card 1 2; friend 2 0 1 0 0 0 0 0 0 0 0; service 12; service 1 => 2
            borrow(0, 1, 1) => 0
            hang(0) => 0
            hang(1) => 1
            hold() => 0
            load board 1; card 1 2; friend 2 0 1 0 0 0 0 0 0 0 0; service 12; service 1 => 2
            size(7) | size(9) | size(10) | size(11) | size(12) | size(13) | size(14) | card(0, 3) => 0
            size(8) | hung(0, 0) | place(0, 0, 2, 0) | place(0, 0, 2, 1) | place(0, 0, 2, 2) | undo() => -1
            lends(0, 1) => 1
            card(101, 2) => 0
            hold() => -3
            luck() | turned() => 0.0
            """);
        Edges.edge(3, "and then nothing but the buffer and the results of loadError() and loadStatement() changes", """
            load board 1 2 turn; card 1 1; service 1 => 1
            hang(0) => 1
            hold() => 0
            size(14) => 2
            load board 6; card 2 2; service 5; service 6; x => -141
            size(14) => 2
            size(0) => 2
            size(2) | size(4) | size(6) | size(9) | size(10) | size(11) | size(12) => 1
            size(8) => 0
            undo() => 1
            load => -100
            load board 7 => -106
            undo() => 0
            size(8) => -1
            undo() => -1
            """);
        Edges.edge(3, "The output and the snapshots stay", """
            load board 2; service 7 => 1
            writeService(0) => 1
            saveSnapshot(1) => 0
            load board 3 => 0
            outputByte(0) => 55
            outputByte(1) => -1
            restoreSnapshot(0) => -1
            restoreSnapshot(1) => 0
            size(1) => 2
            load x => -100
            outputByte(0) => 55
            restoreSnapshot(1) => 0
            """);
    }
}
