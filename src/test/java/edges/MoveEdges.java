import java.util.ArrayList;
import java.util.List;
import java.util.function.IntUnaryOperator;

/** Edges of PLACES, moves and passes, and of what can be undone. */
final class MoveEdges extends Edges {
    /** Thirteen lines that lead nowhere, and line 13 between the ends. */
    private static final String TAILS = lines("knots 3;ends 0 2;", 13) + "line 0 2;";

    MoveEdges(Checks checks, Sentences sentences) {
        super(checks, sentences);
    }

    @Override
    void run() {
        places();
        whoHasIt();
        aMove();
        line();
        placeAndReaches();
        move();
        pass();
        undo();
        written();
        now();
        atMostForty();
        askedOnly();
        severalAnswers();
    }

    private static String chain(String behind) {
        StringBuilder text = new StringBuilder("knots 8;");
        for (int k = 7; k > 0; k--) {
            text.append("line ").append(k).append(' ').append(k - 1).append(';');
        }
        return text + behind;
    }

    private void places() {
        terms("PLACES: KNOTS that hang together by JOINED LINES are one PLACE;");
        SwitchGame game = game(chain(""));
        row("place, none JOINED", game::place, 0, 0, 1, 2, 3, 4, 5, 6, 7);
        due("PLACES, none JOINED", 8, game.now(5));
        game = game(chain("joined 0;joined 2;joined 4;joined 6;joined 1;joined 3;joined 5;"));
        row("place, all JOINED", game::place, 0, 0, 0, 0, 0, 0, 0, 0, 0);
        due("PLACES, all JOINED", 1, game.now(5));
        game = game(chain("gone 0;gone 1;gone 2;gone 3;joined 6;"));
        row("place, not by GONE ones, not by OPEN ones", game::place, 0, 0, 0, 2, 3, 4, 5, 6, 7);
        due("PLACES", 7, game.now(5));

        terms("its number is that of its least KNOT.");
        game = game("knots 8;line 7 5;line 3 6;line 6 7;line 4 2;joined 0;joined 1;joined 3;joined 2;");
        row("place", game::place, 0, 0, 1, 2, 3, 2, 3, 3, 3);
    }

    private void whoHasIt() {
        terms("JOIN HAS it: both ends are of one PLACE.");
        due("by one line", 0, game("knots 2;line 0 1;joined 0;").now(1));
        due("by seven", 0, game(chain("joined 0;joined 1;joined 2;joined 3;joined 4;joined 5;joined 6;")).now(1));
        due("six of seven", 2, game(chain("joined 0;joined 1;joined 2;joined 4;joined 5;joined 6;")).now(1));
        due("other KNOTS than the ends", 2, game("knots 3;line 0 1;line 1 2;joined 0;").now(1));

        terms("CUT HAS it: by OPEN and JOINED LINES they don't hang together.");
        due("no lines", 1, game("knots 2;").now(1));
        due("the only one GONE", 1, game("knots 2;line 0 1;gone 0;").now(1));
        due("one of seven GONE", 1, game(chain("gone 3;joined 0;")).now(1));
        due("by OPEN and JOINED ones they do", 2, game(chain("joined 3;joined 0;")).now(1));
        due("one of two GONE", 2, game("knots 2;line 0 1;line 0 1;gone 0;").now(1));

        terms("OVER: one of both HAS it.");
        due("JOIN: no pass", false, game(HAD).pass());
        due("JOIN: no move", -3, game(HAD).move(1));
        due("CUT: no pass", false, game(LOST).pass());
        due("CUT: no move", -3, game(LOST).move(1));
        due("nobody: a pass", true, game(BRIDGE).pass());
    }

    private void aMove() {
        terms("A move: who is to move takes an OPEN LINE: JOIN makes it JOINED, CUT GONE;");
        SwitchGame game = game(TAILS);
        game.move(0);
        game.move(12);
        due("CUT's", 2, game.line(0, 2));
        due("JOIN's", 1, game.line(12, 2));
        due("all others stay", 12, game.now(2));

        terms("or passes;");
        due("a pass", true, game.pass());
        due("no line is taken", 12, game.now(2));

        terms("then the other one is to move.");
        game = game(TAILS);
        int[] movers = {1, 0, 1, 0, 1};
        for (int turn = 0; turn < 4; turn++) {
            due("mover " + turn, movers[turn], game.now(0));
            if (turn % 3 == 0) {
                game.move(turn);
            } else {
                game.pass();
            }
            due("mover behind " + turn, movers[turn + 1], game.now(0));
        }
        due("CUT ends it", 1, game.move(13));
        due("JOIN would be to move then", 0, game.now(0));

        terms("If it is OVER nobody moves.");
        String before = State.of(game);
        due("move", -3, game.move(5));
        due("pass", false, game.pass());
        same("nothing has changed", before, State.of(game));
    }

    private void line() {
        promise(5, "Of a LINE, what 0, 1 its KNOTS, 2: 0 OPEN, 1 JOINED, 2 GONE.");
        SwitchGame game = game("knots 8;line 7 0;line 1 2;line 2 1;joined 1;gone 2;");
        int[][] rows = {{7, 0, 0}, {1, 2, 1}, {2, 1, 2}};
        for (int i = 0; i < 3; i++) {
            for (int what = 0; what < 3; what++) {
                due("line(" + i + ", " + what + ")", rows[i][what], Checks.lineOf(game, i, what));
            }
        }

        promise(5, "IndexOutOfBoundsException: no such LINE.");
        for (int what = 0; what < 3; what++) {
            int asked = what;
            beyond("line(i, " + what + ")", i -> Checks.lineOf(game, i, asked), 1000, 0, 2);
            beyond("line(i, " + what + ") of none", i -> Checks.lineOf(new SwitchGame(), i, asked), 1000, 0, -1);
            SwitchGame full = game(TAILS);
            due("the last of fourteen", true, Checks.lineOf(full, 13, what) <= 2);
            beyond("line(i, " + what + ") of fourteen", i -> Checks.lineOf(full, i, asked), 1000, 0, 13);
        }

        promise(5, "NoSuchElementException: no such what.");
        for (int i = 0; i < 3; i++) {
            int asked = i;
            beyond("line(" + i + ", what)", what -> Checks.lineOf(game, asked, what), 2000, 0, 2);
        }

        terms("IndexOutOfBoundsException ahead of NoSuchElementException.");
        for (int what : new int[] {LOW, -1, 3, FAR}) {
            beyond("line(i, " + what + ")", i -> Checks.lineOf(game, i, what), 1000, 0, 2);
        }
    }

    private void placeAndReaches() {
        promise(6, "The PLACE of a KNOT;");
        SwitchGame game = game("knots 5;line 4 3;line 2 1;line 1 3;joined 0;gone 2;");
        row("place", game::place, 0, 0, 1, 2, 3, 3);

        promise(6, "NONE: no such KNOT.");
        beyond("place of five", game::place, -1, 0, 4);
        beyond("place of two", new SwitchGame()::place, -1, 0, 1);
        beyond("place of eight", game("knots 8;")::place, -1, 0, 7);

        promise(7, "KNOTS (bits) that hang together with a KNOT, itself, too, by JOINED LINES (what 0), by OPEN and JOINED ones (1);");
        row("reaches(k, 0)", k -> game.reaches(k, 0), 0, 1, 2, 4, 24, 24);
        row("reaches(k, 1)", k -> game.reaches(k, 1), 0, 1, 6, 6, 24, 24);
        SwitchGame eight = game(chain("joined 3;"));
        row("reaches(k, 0)", k -> eight.reaches(k, 0), 0, 1, 2, 4, 24, 24, 32, 64, 128);
        row("reaches(k, 1)", k -> eight.reaches(k, 1), 0, 255, 255, 255, 255, 255, 255, 255, 255);

        promise(7, "NONE: no such ones.");
        for (int what = 0; what < 2; what++) {
            int asked = what;
            beyond("reaches(k, " + what + ")", k -> game.reaches(k, asked), -1, 0, 4);
        }
        for (int k = 0; k < 5; k++) {
            int asked = k;
            beyond("reaches(" + k + ", what)", what -> game.reaches(asked, what), -1, 0, 1);
        }
        due("neither", -1, game.reaches(5, 2));
    }

    private void move() {
        promise(8, "Who is to move takes a LINE: who HAS it then (0 JOIN, 1 CUT, 2 nobody yet);");
        SwitchGame game = game("knots 2;line 0 1;line 0 1;line 0 1;");
        due("CUT, the first", 2, game.move(0));
        due("JOIN, the second", 0, game.move(2));
        game = game("knots 2;line 0 1;line 0 1;");
        game.move(1);
        game.pass();
        due("CUT, the last", 1, game.move(0));
        game = game(TAILS + "first join;");
        due("JOIN, the last of fourteen", 0, game.move(13));

        promise(8, "-2: it isn't OPEN;");
        game = game("knots 3;line 0 1;line 0 1;line 1 2;line 1 2;joined 0;gone 3;");
        String before = State.of(game);
        due("JOINED", -2, game.move(0));
        due("GONE", -2, game.move(3));
        same("nothing has changed", before, State.of(game));
        game.move(1);
        due("just taken", -2, game.move(1));

        promise(8, "-3: it is OVER;");
        for (String over : new String[] {HAD, LOST, HAD + "first join;", LOST + "first join;"}) {
            game = game(over);
            before = State.of(game);
            due("OVER", -3, game.move(1));
            same("nothing has changed", before, State.of(game));
        }

        promise(8, "NONE: no such LINE.");
        game = game(BRIDGE);
        before = State.of(game);
        beyond("move", game::move, -1, 0, 4);
        beyond("move where it is OVER", game(HAD)::move, -1, 0, 2);
        beyond("move without lines", new SwitchGame()::move, -1, 0, -1);
        beyond("move of fourteen", game(TAILS)::move, -1, 0, 13);
        same("nothing has changed", before, State.of(game));
    }

    private void pass() {
        promise(9, "Who is to move passes: true;");
        SwitchGame game = game(BRIDGE);
        for (int turn = 0; turn < 50; turn++) {
            due("pass " + turn, true, game.pass());
            due("mover", turn % 2, game.now(0));
        }
        due("nobody HAS it", 2, game.now(1));

        promise(9, "false: it is OVER.");
        for (String over : new String[] {HAD, LOST, "knots 2;", "knots 2;line 0 1;gone 0;first join;"}) {
            game = game(over);
            String before = State.of(game);
            due("pass in '" + over + "'", false, game.pass());
            same("nothing has changed", before, State.of(game));
        }
    }

    private void undo() {
        promise(10, "The latest move or pass is undone: the LINE (-2: a pass);");
        SwitchGame game = game(TAILS);
        String first = State.of(game);
        game.move(7);
        String second = State.of(game);
        game.pass();
        String third = State.of(game);
        game.pass();
        String fourth = State.of(game);
        due("JOIN ends it", 0, game.move(13));
        due("a LINE of JOIN", 13, game.undo());
        same("as ahead of it", fourth, State.of(game));
        due("a pass", -2, game.undo());
        same("as ahead of it", third, State.of(game));
        due("a pass", -2, game.undo());
        same("as ahead of it", second, State.of(game));
        due("a LINE", 7, game.undo());
        same("as ahead of it", first, State.of(game));
        due("CUT ends it", 1, game.move(13));
        due("a LINE of CUT", 13, game.undo());
        same("as ahead of it", first, State.of(game));
        game = game(BRIDGE);
        game.move(0);
        due("LINE 0", 0, game.undo());

        askedAgain();

        promise(10, "NONE: there is none.");
        String before = State.of(game);
        due("none left", -1, game.undo());
        due("none left", -1, game.undo());
        same("nothing has changed", before, State.of(game));
        due("none in a new object", -1, new SwitchGame().undo());
        game = game("knots 2;line 0 1;line 0 1;joined 0;gone 1;");
        due("what the text told is no move", -1, game.undo());
        due("it stays JOINED", 1, game.line(0, 2));
    }

    /** What a position told is told again, when a move from it is undone. */
    private void askedAgain() {
        for (String first : new String[] {"first cut;", "first join;"}) {
            SwitchGame game = game(BRIDGE + first);
            due("lucky", 16, game.lucky(-1));
            game.move(0);
            due("lucky, 0 taken, " + first, first.equals("first cut;") ? 5 : 11, game.lucky(-1));
            game.undo();
            due("lucky again, " + first, 16, game.lucky(-1));
            due("walls again, " + first, 16, game.walls(-1));
            game.pass();
            game.move(2);
            due("lucky, 2 taken, " + first, first.equals("first cut;") ? 9 : 7, game.lucky(-1));
            game.undo();
            due("needed again, " + first, 0, game.needed());
            row("strong again, " + first, game::strong, 0, 0, 1, 3, 4, 2);
            game.undo();
            row("positions again, " + first, game::positions, 0, 59, 59, 125, 243);
            due("outcome again, " + first, 2, game.outcome());
        }
    }

    private void written() {
        promise(11, "The k-th move that can be undone (k from 0 on, 0 the eldest): its LINE;");
        SwitchGame game = game(TAILS);
        for (int i = 12; i >= 0; i--) {
            game.move(i);
        }
        row("written", game::written, 0, 12, 11, 10, 9, 8, 7, 6, 5, 4, 3, 2, 1, 0);
        game.undo();
        row("written, one undone", game::written, 10, 2, 1, -2);

        promise(11, "-3: a pass;");
        game = game(TAILS);
        game.pass();
        game.move(4);
        game.pass();
        row("written", game::written, 0, -3, 4, -3);

        promise(11, "-2: there are not so many;");
        above("written of three", game::written, -2, 2);
        due("of none", -2, game(BRIDGE).written(0));
        due("of a new object", -2, new SwitchGame().written(0));
        game.undo();
        due("undone", -2, game.written(2));

        promise(11, "NONE: k below 0.");
        below("written of two", game::written, -1, 0);
        below("written of none", new SwitchGame()::written, -1, 0);
    }

    private void now() {
        promise(12, "What 0 who is to move (0 JOIN, 1 CUT), 1 who HAS it (0, 1, 2 nobody), 2 how many are OPEN, 3 JOINED, "
                + "4 GONE, 5 PLACES, 6 what can be undone.");
        row("now, new", new SwitchGame()::now, 0, 1, 1, 0, 0, 0, 2, 0);
        row("now, JOIN HAS it", game(HAD + "first join;")::now, 0, 0, 0, 2, 1, 0, 1, 0);
        row("now, CUT HAS it", game(LOST)::now, 0, 1, 1, 2, 0, 1, 3, 0);
        SwitchGame game = game(TAILS);
        row("now, fourteen OPEN", game::now, 0, 1, 2, 14, 0, 0, 3, 0);
        game.move(0);
        game.move(1);
        game.pass();
        row("now, moved", game::now, 0, 0, 2, 12, 1, 1, 2, 3);
        row("now, eight KNOTS", game("knots 8;")::now, 5, 8);

        promise(12, "NONE for another what.");
        beyond("now", game::now, -1, 0, 6);
        beyond("now, new", new SwitchGame()::now, -1, 0, 6);
    }

    /** Moves of lines 0 to 12, behind each one pass more than behind the one before, then passes alone. */
    private void atMostForty() {
        terms("Moves and passes can be undone, the latest first, 40 at most (the eldest are forgotten).");
        SwitchGame game = game(TAILS);
        List<Integer> told = new ArrayList<>();
        for (int i = 0; i < 13; i++) {
            game.move(i);
            told.add(i);
            for (int p = 0; p <= i; p++) {
                game.pass();
                told.add(-3);
            }
            if (told.size() > 36 && told.size() < 46 || i == 12) {
                allWritten(game, told);
            }
        }
        due("the cap", 40, game.now(6));
        List<Integer> latest = told.subList(told.size() - 40, told.size());
        for (int k = 39; k >= 0; k--) {
            due("undo " + k, latest.get(k) == -3 ? -2 : latest.get(k), game.undo());
            due("left " + k, k, game.now(6));
        }
        due("the eldest are forgotten", -1, game.undo());
        due("their lines stay taken: 0", 2, game.line(0, 2));
        due("lines undone are OPEN: 12", 0, game.line(12, 2));
        exactlyForty();
    }

    private void allWritten(SwitchGame game, List<Integer> told) {
        int ahead = Math.max(told.size() - 40, 0);
        due("how many can be undone", told.size() - ahead, game.now(6));
        for (int k = ahead; k < told.size(); k++) {
            due("written(" + (k - ahead) + ")", told.get(k), game.written(k - ahead));
        }
        due("no more", -2, game.written(told.size() - ahead));
    }

    private void exactlyForty() {
        SwitchGame game = game(TAILS);
        game.move(5);
        for (int p = 0; p < 39; p++) {
            game.pass();
        }
        due("forty: the eldest is there", 5, game.written(0));
        game.pass();
        due("forty-one: it is forgotten", -3, game.written(0));
        due("still forty", 40, game.now(6));
        for (int p = 0; p < 40; p++) {
            due("undo " + p, -2, game.undo());
        }
        due("forgotten", -1, game.undo());
        due("who was to move then", 0, game.now(0));
        due("GONE for good", 2, game.line(5, 2));
        game.move(6);
        due("written again", 6, game.written(0));
        due("undone again", 6, game.undo());
    }

    private void askedOnly() {
        terms("What is asked changes nothing.");
        for (String text : new String[] {BRIDGE, SAFE, ROADS, ALL_OF_FOUR, HAD, LOST, TAILS}) {
            SwitchGame game = game(text);
            game.pass();
            game.move(1);
            game.pass();
            Tape.read(game, "knots 9;");
            Tape.feed(game, "knots 7;");
            String before = State.withTape(game);
            for (int n = -4; n < 16; n++) {
                askAll(game, n);
                same("asked with " + n, before, State.withTape(game));
            }
            due("the TAPE is as it was fed", 1, game.text(20));
            due("KNOTS of it", 7, game.count(0));
        }
    }

    private static void askAll(SwitchGame game, int n) {
        IntUnaryOperator[] calls = {game::fault, i -> Checks.lineOf(game, i, 2), game::place, i -> game.reaches(i, 1),
            game::written, game::now, game::pair, i -> game.outcome(), i -> game.wins(0, i), i -> game.wins(1, i),
            game::answer, game::exchange, game::played, game::verified, game::full, game::positions, game::wall,
            game::road, game::lucky, game::luckyWith, i -> game.trees(), game::treesWith, game::idle,
            i -> game.ifLine(i, 0), i -> game.ifLine(i, 1), i -> game.ifMore(0, i), i -> game.ifEnds(i, 0),
            i -> game.lacks(), game::cutAnswer, game::verifiedForCut, game::pivots, i -> game.needed(), game::walls,
            game::set, i -> game.alike(0, i), game::strong, game::forests, game::duel, i -> game.chance(i, 3),
            game::count};
        for (IntUnaryOperator call : calls) {
            call.applyAsInt(n);
        }
    }

    private void severalAnswers() {
        terms("Of several answers that hold NONE goes first, then -2, then -3.");
        SwitchGame had = game(HAD);
        SwitchGame lost = game(LOST);
        SwitchGame bridge = game(BRIDGE);
        SwitchGame eleven = game(lines("knots 2;", 11));
        due("move: no LINE, OVER", -1, had.move(3));
        due("move: not OPEN, OVER", -2, had.move(0));
        due("move: not OPEN, OVER for CUT", -2, lost.move(2));
        due("answer: no LINE, no PAIR", -1, bridge.answer(5));
        due("answer: not OPEN, no PAIR", -2, had.answer(0));
        due("exchange: no LINE, no PAIR", -1, bridge.exchange(5));
        due("pair: another what, none", -1, bridge.pair(4));
        due("wins: k below 0, none WINS", -1, had.wins(0, -1));
        due("wins: nobody, none WINS", -1, had.wins(2, 0));
        due("written: below 0, none", -1, bridge.written(-1));
        due("verified: another what, no PAIR", -1, bridge.verified(2));
        due("verified: another what, eleven", -1, eleven.verified(-1));
        due("full: nobody, eleven", -1, eleven.full(2));
        due("positions: another what, eleven", -1, eleven.positions(4));
        due("wall: another what, JOIN HAS it", -1, had.wall(2));
        due("road: another what, CUT HAS it", -1, lost.road(-1));
        due("luckyWith: no LINE", -1, had.luckyWith(-1));
        due("ifLine: no such how, not OPEN", -1, had.ifLine(0, 2));
        due("cutAnswer: no LINE, OVER", -1, lost.cutAnswer(3));
        due("verifiedForCut: another what, KEEN", -1, bridge.verifiedForCut(2));
        due("verifiedForCut: another what, eleven", -1, eleven.verifiedForCut(-1));
        due("alike: no LINE, the other not OPEN", -1, had.alike(3, 0));
        due("alike: not OPEN, the other no LINE", -1, had.alike(0, 3));
        due("set: below 0, none", -1, bridge.set(-1));
        due("strong: below 0, none", -1, new SwitchGame().strong(-1));
        due("duel: no seed, no PAIR", -1, bridge.duel(-1));
    }
}
