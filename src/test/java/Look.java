/** All that an object tells of what it holds, as one text; on small boards with fewer calls than an object has. */
final class Look {
    private final Script script;
    private final StringBuilder text = new StringBuilder();

    private Look(Script script) {
        this.script = script;
    }

    /** The output and the results of the latest load are left out if they may differ. */
    static String at(Script script, boolean withOutput, boolean withLoad) {
        Look look = new Look(script);
        look.numbers();
        look.cards();
        look.lists();
        look.places();
        look.whatWouldBe();
        if (withOutput) {
            look.tell("out");
        }
        if (withLoad) {
            look.tell("loadError()");
            look.tell("loadStatement()");
        }
        look.tell("append(0)");
        if (script.calls() > 512) {
            Script.due("calls of one object", script.calls(), "at most 512");
        }
        return look.text.toString();
    }

    private void tell(String call) {
        text.append(call).append('=').append(script.answer(call)).append(' ');
    }

    /** Tells a call with the numbers 0 to many - 1 in place of its #. */
    private void tell(String call, int many) {
        for (int number = 0; number < many; number++) {
            tell(call.replace("#", String.valueOf(number)));
        }
    }

    private int size(int what) {
        return script.boards().size(what);
    }

    private void numbers() {
        tell("size(#)", 15);
        tell("holes()");
        tell("firstOut()");
        tell("easiest()");
        tell("wouldFall()");
        tell("luck()");
        tell("turned()");
        tell("free(#)", 10);
        tell("most(#)", 10);
        tell("lenders(#)", 10);
    }

    private void cards() {
        for (int card = 0; card < size(4); card++) {
            tell("card(" + card + ", #)", 4);
            tell("way(" + card + ", 6)");
            tell("way(" + card + ", 9)");
        }
        for (int friend = 0; friend < Math.min(2, size(5)); friend++) {
            for (int digit = 0; digit < 10; digit++) {
                tell("card(" + (100 + 10 * friend + digit) + ", 2)");
                tell("card(" + (100 + 10 * friend + digit) + ", 3)");
                tell("lends(" + friend + ", " + digit + ")");
            }
        }
        for (int loan = 0; loan < size(7); loan++) {
            tell("loan(" + loan + ", #)", 4);
        }
    }

    private void lists() {
        tell("rows(#)", size(0));
        tell("hymns(#)", size(6));
        for (int service = 0; service < size(6); service++) {
            tell("hymn(" + service + ", #)", script.boards().hymns(service));
        }
    }

    private void places() {
        for (int board = 0; board < size(0); board++) {
            for (int row = 0; row < script.boards().rows(board); row++) {
                tell("hung(" + board + ", " + row + ")");
                for (int column = 0; column < 3; column++) {
                    tell("place(" + board + ", " + row + ", " + column + ", #)", 3);
                }
            }
        }
    }

    private void whatWouldBe() {
        for (int service = 0; service < Math.min(3, size(6)); service++) {
            tell("would(" + service + ", #)", 7);
            tell("outAt(" + service + ")");
            tell("missing(" + service + ")");
            tell("bestBuy(" + service + ")");
            tell("workFrom(" + service + ", 0)");
        }
        for (int hymn : new int[] {1, 6, 9, 22, 66, 169, 225, 999}) {
            tell("canShow(" + hymn + ")");
        }
    }
}
