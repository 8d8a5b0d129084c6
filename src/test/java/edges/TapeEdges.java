/** Edges of a new object, of the TAPE, and of what a text leaves as it is. */
final class TapeEdges extends Edges {
    private static final int BLANKS = 0x20202020;

    TapeEdges(Checks checks, Sentences sentences) {
        super(checks, sentences);
    }

    @Override
    void run() {
        newObject();
        feed();
        text();
        fault();
        count();
        calls();
    }

    private void newObject() {
        promise(1, "2 KNOTS, both ends, no LINES;");
        SwitchGame game = new SwitchGame();
        row("count", game::count, 0, 2, 0, 0, 1, 0);
        row("place", game::place, -1, -1, 0, 1, -1);
        due("no line 0", 1000, Checks.lineOf(game, 0, 0));
        row("now", game::now, 1, 1, 0, 0, 0, 2, 0);
        due("CUT HAS it: no move", -1, game.move(0));
        due("no pass", false, game.pass());
        due("nothing to undo", -1, game.undo());
        due("outcome", 1, game.outcome());

        promise(1, "CUT is to move;");
        due("now(0)", 1, new SwitchGame().now(0));

        promise(1, "an empty TAPE.");
        due("count(5)", 0, new SwitchGame().count(5));
        due("text(1)", -2, new SwitchGame().text(1));
        due("text(0)", 0, new SwitchGame().text(0));
        due("the first feed", 20, new SwitchGame().feed(0, 0, 0, 0, 0));
    }

    private void feed() {
        promise(2, "Twenty bytes come behind the TAPE, four of each number, the highest first: how many it has;");
        SwitchGame game = new SwitchGame();
        due("once", 20, game.feed(0x6B6E6F74, 0x7320343B, 0x6C696E65, 0x20302031, 0x3B6C696E));
        due("twice", 40, game.feed(0x65203120, 0x323B6C69, 0x6E652032, 0x20333B20, BLANKS));
        due("knots 4;line 0 1;line 1 2;line 2 3;", 4, game.text(40));
        due("line(0, 1)", 1, game.line(0, 1));
        due("line(1, 1)", 2, game.line(1, 1));
        due("line(2, 1)", 3, game.line(2, 1));
        for (int at = 0; at < 20; at++) {
            StringBuilder text = new StringBuilder(" ".repeat(20)).replace(at, at + 1, "!");
            due("a byte at " + at, -1, Tape.read(game, text.toString()));
            due("stands there", at, game.fault(1));
            text.setCharAt(at, (char) 255);
            Tape.read(game, text.toString());
            due("a byte with the highest bit stands there", at, game.fault(1));
        }
        Tape.feed(game, "knots 3;" + " ".repeat(12));
        due("behind what it has", 40, Tape.feed(game, "line 0 2;"));
        due("both", 2, game.text(40));

        promise(2, "NONE, and none come, if it would have more than 600.");
        game = new SwitchGame();
        game.feed(0x6B6E6F74, 0x7320373B, BLANKS, BLANKS, BLANKS);
        for (int turn = 2; turn <= 30; turn++) {
            due("feed " + turn, 20 * turn, game.feed(BLANKS, BLANKS, BLANKS, BLANKS, BLANKS));
        }
        for (int turn = 0; turn < 3; turn++) {
            due("beyond 600", -1, game.feed(0x21212121, 0x21212121, 0x21212121, 0x21212121, 0x21212121));
            due("still 600", 600, game.count(5));
        }
        due("not beyond it", -2, game.text(601));
        due("nor with what was refused", -2, game.text(620));
        due("none came", 1, game.text(600));
        due("the first bytes are there", 7, game.count(0));
        due("then there is room again", 20, game.feed(BLANKS, BLANKS, BLANKS, BLANKS, BLANKS));
        due("old bytes don't come back", 0, game.text(20));
    }

    private void text() {
        promise(3, "The TAPE's first n bytes");
        SwitchGame game = new SwitchGame();
        String two = "knots 3;line 0 2;";
        Tape.feed(game, two);
        due("some of them", 1, game.text(8));
        due("KNOTS", 3, game.count(0));
        due("no LINES", 0, game.count(1));
        Tape.feed(game, two);
        due("all of it", 2, game.text(20));
        Tape.feed(game, two);
        due("no byte", 0, game.text(0));
        due("no byte, KNOTS", 2, game.count(0));
        due("no byte of an empty TAPE", 0, game.text(0));
        Tape.feed(game, "knots 22;");
        due("a number ends where the text ends", -1, game.text(7));
        due("so that ; is due there", 7, game.fault(1));

        promise(3, "(it is empty then)");
        for (int n : new int[] {0, 8, 17, 20}) {
            Tape.feed(game, two);
            due("text(" + n + ")", n == 0 ? 0 : n == 8 ? 1 : 2, game.text(n));
            due("no bytes then", 0, game.count(5));
            due("not even one", -2, game.text(1));
        }
        Tape.feed(game, "knots 9;");
        due("a FAULT", -1, game.text(8));
        due("no bytes then, too", 0, game.count(5));
        due("not even one", -2, game.text(1));

        promise(3, "are the TEXT (all anew, nothing to undo): how many LINES of text;");
        game = game("knots 4;ends 1 2;line 1 2;line 0 3;line 1 2;joined 1;first join;");
        game.pass();
        game.move(0);
        due("another text", 3, Tape.read(game, "knots 3;line 0 1;line 1 2;"));
        row("now", game::now, 0, 1, 2, 2, 0, 0, 3, 0);
        row("count", game::count, 0, 3, 2, 0, 2, 3, 0);
        due("nothing to undo", -1, game.undo());
        due("nothing written", -2, game.written(0));
        due("line(1, 0)", 1, game.line(1, 0));
        due("line(1, 1)", 2, game.line(1, 1));
        due("the third line is no more", 1000, Checks.lineOf(game, 2, 0));
        due("the fourth KNOT is no more", -1, game.place(3));
        due("lucky sets anew", 1, game.lucky(-1));
        due("the same text again", 3, Tape.read(game, "knots 3;line 0 1;line 1 2;"));

        anew();
        faultyText();
        refusedText();
    }

    /** What was asked or told of an earlier net is no more, though the same lines are OPEN. */
    private void anew() {
        promise(3, "(all anew, nothing to undo)");
        SwitchGame game = game("knots 2;ends 1 0;line 0 1;line 0 1;gone 0;first join;");
        due("the same again", 6, Tape.read(game, "knots 2;ends 1 0;line 0 1;line 0 1;gone 0;first join;"));
        due("without", 3, Tape.read(game, "knots 2;line 0 1;line 0 1;"));
        row("now", game::now, 0, 1, 2, 2, 0, 0, 2, 0);
        due("lucky", 3, game.lucky(-1));
        due("verified", 2, game.verified(0));
        due("two roads", 5, Tape.read(game, ROADS));
        due("lucky of two roads", 7, game.lucky(-1));
        due("verifiedForCut of two roads", 8, game.verifiedForCut(0));
        due("one road", 3, Tape.read(game, "knots 3;line 0 1;line 1 2;"));
        due("lucky of one road", 1, game.lucky(-1));
        due("verifiedForCut of one road", 2, game.verifiedForCut(0));
        due("two trees", 5, Tape.read(game, TWO_TREES));
        due("lucky of two trees", 9, game.lucky(-1));
        due("verified of two trees", 8, game.verified(0));
        due("fewer lines", 3, Tape.read(game, "knots 2;line 0 1;line 0 1;"));
        due("verified of two lines", 2, game.verified(0));
        due("strong of two lines", -2, game.strong(2));
        due("trees of two lines", 2, game.trees());
    }

    private void faultyText() {
        promise(3, "NONE with a FAULT, all else stays;");
        SwitchGame game = game("knots 4;ends 1 2;line 1 2;line 0 3;line 1 2;gone 1;first join;");
        game.pass();
        game.move(0);
        game.pass();
        String before = State.of(game);
        for (String text : new String[] {"x", "knots 9;", "knots 2;line 0 1;line 0 1;joined 0;first cut;line 0 0;",
            "knots 8;ends 7 6;line 5 4;gone 0;first join", "knots 2;ends 1 0;ends 0 1;"}) {
            due("text '" + text + "'", -1, Tape.read(game, text));
            same("all stays", before, State.of(game));
            due("lucky stays", 1, game.lucky(-1));
        }
        due("a pass to undo", -2, game.undo());
        due("a move to undo", 0, game.undo());
        due("a pass to undo", -2, game.undo());
        due("no more", -1, game.undo());
    }

    private void refusedText() {
        promise(3, "-2, and the TAPE stays: there are not so many,");
        SwitchGame game = game(BRIDGE);
        game.move(0);
        String before = State.of(game);
        due("one of none", -2, game.text(1));
        Tape.feed(game, "knots 5;");
        above("text", game::text, -2, 20);
        due("the TAPE stays", 20, game.count(5));
        same("all stays", before, State.of(game));
        due("what it has is there", 1, game.text(20));
        due("KNOTS", 5, game.count(0));

        promise(3, "n is below 0.");
        Tape.feed(game, "knots 6;");
        below("text", game::text, -2, 0);
        due("the TAPE stays", 20, game.count(5));
        due("KNOTS stay", 5, game.count(0));
        due("what it has is there", 1, game.text(8));
        due("KNOTS then", 6, game.count(0));
    }

    private void fault() {
        promise(4, "Of the latest text() that was not -2,");
        SwitchGame game = new SwitchGame();
        Tape.read(game, "knots 3;line 0 0;");
        due("fault", 3, game.fault(0));
        due("place", 15, game.fault(1));
        each("text", game::text, -2, -1, 1, FAR, LOW);
        due("fault, -2 behind it", 3, game.fault(0));
        due("place, -2 behind it", 15, game.fault(1));
        Tape.read(game, "knots 9;");
        due("fault of the latest", 2, game.fault(0));
        due("place of the latest", 6, game.fault(1));
        Tape.feed(game, "x");
        due("feed changes no fault", 2, game.fault(0));
        due("a good one", 0, game.text(0));
        due("-2 behind it", -2, game.text(1));
        due("fault of a good one", 0, game.fault(0));
        due("place of a good one", -1, game.fault(1));

        promise(4, "what 0: its FAULT (0), 1: its place (NONE without).");
        Tape.read(game, "!");
        due("a FAULT", 1, game.fault(0));
        due("at place 0", 0, game.fault(1));
        Tape.read(game, "knots 2;");
        due("none", 0, game.fault(0));
        due("no place", -1, game.fault(1));

        promise(4, "NONE for another what;");
        beyond("fault", game::fault, -1, 0, 1);
        Tape.read(game, "knots 9;");
        beyond("fault", game::fault, -1, 0, 1);

        promise(4, "ahead of any 0 and NONE.");
        game = new SwitchGame();
        due("fault(0)", 0, game.fault(0));
        due("fault(1)", -1, game.fault(1));
        game.text(5);
        game.text(-5);
        due("behind -2 alone", 0, game.fault(0));
        due("behind -2 alone, place", -1, game.fault(1));
    }

    private void count() {
        promise(44, "0 KNOTS, 1 LINES, 2, 3 the ends, 4 LINES of text, 5 bytes of the TAPE.");
        row("count, new", new SwitchGame()::count, 0, 2, 0, 0, 1, 0, 0);
        SwitchGame game = game(lines("knots 8;ends 6 5;", 14) + "gone 0;");
        game.feed(0, 0, 0, 0, 0);
        row("count, full", game::count, 0, 8, 14, 6, 5, 17, 20);
        game.text(1);
        row("count behind a FAULT", game::count, 0, 8, 14, 6, 5, 17, 0);

        promise(44, "NONE for another what.");
        beyond("count", game::count, -1, 0, 5);
        beyond("count, new", new SwitchGame()::count, -1, 0, 5);
    }

    private void calls() {
        introduction("An object is used for at most 512 calls after it has been made;");
        SwitchGame game = new SwitchGame();
        game.feed(0x6B6E6F74, 0x7320323B, 0x6C696E65, 0x20302031, 0x3B6C696E);
        game.feed(0x65203020, 0x313B2020, BLANKS, BLANKS, BLANKS);
        due("the text", 3, game.text(26));
        // Three calls are made; each turn makes four more, and five stand behind.
        for (int turn = 0; turn < 126; turn++) {
            due("pass of turn " + turn, true, game.pass());
            due("mover of turn " + turn, turn % 2, game.now(0));
            due("to undo in turn " + turn, Math.min(turn + 1, 40), game.now(6));
            due("written of turn " + turn, -3, game.written(0));
        }
        due("call 508", 3, game.lucky(-1));
        due("call 509", 2, game.move(0));
        due("call 510", 0, game.move(1));
        due("call 511", 1, game.undo());
        due("call 512", 0, game.undo());
    }
}
