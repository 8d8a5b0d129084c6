/** Each promise of the document by answers worked out by hand: ordinary ones, edges, wrong inputs. */
public final class PromiseTest {
    private static final int FAR = 2147483647;
    private static final int LOW = -2147483648;

    /** Two ends, two roads of two lines, and a line between their middles: who begins wins. */
    private static final String BRIDGE =
            "knots 4;ends 0 3;line 0 1;line 0 2;line 1 2;line 1 3;line 2 3;";
    /** Two lines 0-1, two lines 1-2, one 0-2: JOIN wins, whoever begins. */
    private static final String SAFE =
            "knots 3;line 0 1;line 0 1;line 1 2;line 1 2;line 0 2;";
    /** Two roads of two lines: CUT wins, whoever begins. */
    private static final String ROADS =
            "knots 4;line 0 1;line 1 3;line 0 2;line 2 3;";
    /** Two lines between the ends, and one that leads nowhere. */
    private static final String TAIL = "knots 3;ends 0 1;line 0 1;line 0 1;line 1 2;";
    /** Eleven lines between two ends. */
    private static final String ELEVEN = "knots 2;line 0 1;line 0 1;line 0 1;line 0 1;line 0 1;line 0 1;"
            + "line 0 1;line 0 1;line 0 1;line 0 1;line 0 1;";

    private final Checks checks = new Checks();

    public static void main(String[] args) {
        new PromiseTest().run();
    }

    private void run() {
        tapeAndText();
        netAndMoves();
        pairAndWins();
        gamesGoneThrough();
        setsOfLines();
        treesAndForests();
        whatWouldBe();
        chances();
        checks.end("PromiseTest");
    }

    private void promise(int number, String what) {
        checks.about("promise " + number + ": " + what);
    }

    private void due(String call, long want, long got) {
        checks.due(call, want, got);
    }

    // ---- promises 1 to 4

    private void tapeAndText() {
        promise(1, "a new object");
        SwitchGame game = new SwitchGame();
        due("knots", 2, game.count(0));
        due("lines", 0, game.count(1));
        due("end", 0, game.count(2));
        due("other end", 1, game.count(3));
        due("lines of text", 0, game.count(4));
        due("tape", 0, game.count(5));
        due("mover", 1, game.now(0));
        due("CUT has it", 1, game.now(1));
        due("nothing to undo", -1, game.undo());

        promise(2, "feed");
        due("first", 20, game.feed(0x6B6E6F74, 0x7320333B, 0x20202020, 0x20202020, 0x20202020));
        for (int turn = 2; turn <= 30; turn++) {
            due("feed " + turn, 20 * turn, game.feed(0x20202020, 0x0A0A0A0A, 0x20202020, 0x20202020, 0x0A200A20));
        }
        due("feed beyond 600", -1, game.feed(1, 2, 3, 4, 5));
        due("tape after it", 600, game.count(5));
        due("all 600", 1, game.text(600));
        due("tape is empty", 0, game.count(5));
        due("highest byte first", 3, game.count(0));
        due("fed again", 20, game.feed(-1, -1, -1, -1, -1));
        due("bytes above 127", -1, game.text(20));
        due("their fault", 1, game.fault(0));
        due("their place", 0, game.fault(1));

        promise(3, "text");
        game = Tape.game(BRIDGE);
        due("lines of text", 7, game.count(4));
        due("move", 2, game.move(0));
        Tape.feed(game, SAFE);
        due("below 0", -2, game.text(-1));
        due("lowest", -2, game.text(LOW));
        due("beyond the tape", -2, game.text(game.count(5) + 1));
        due("highest", -2, game.text(FAR));
        due("tape stays", 60, game.count(5));
        due("fault stays", 0, game.fault(0));
        due("move stays", 0, game.written(0));
        due("with a fault", -1, game.text(Tape.bytesOf(SAFE).length - 1));
        due("tape is empty then, too", 0, game.count(5));
        due("net stays", 4, game.count(0));
        due("lines of text stay", 7, game.count(4));
        due("moves stay", 1, game.now(6));
        due("new text", 6, Tape.read(game, SAFE));
        due("nothing to undo", 0, game.now(6));
        due("all OPEN", 5, game.now(2));
        due("CUT moves", 1, game.now(0));
        due("empty", 0, game.text(0));
        due("knots of no text", 2, game.count(0));
        due("ends of no text", 1, game.count(3));
        due("lines of no text", 0, game.count(1));
        Tape.feed(game, "knots 5;ends 4 2;first join;  ");
        due("a part of the tape", 1, game.text(8));
        due("the rest is gone", -2, game.text(1));
        due("ends without ends", 4, game.count(3));
        due("blanks and line ends", 3, Tape.read(game, "\n knots\n5 ;ends 4   2; \nfirst join\n;"));
        due("end", 4, game.count(2));
        due("other end", 2, game.count(3));
        due("JOIN first", 0, game.now(0));

        promise(4, "fault");
        game = new SwitchGame();
        due("ahead of any", 0, game.fault(0));
        due("ahead of any, place", -1, game.fault(1));
        game.text(-1);
        due("after -2", 0, game.fault(0));
        Tape.read(game, "knots 3;line 0 0;");
        due("fault", 3, game.fault(0));
        due("place", 15, game.fault(1));
        game.text(7);
        due("-2 is not the latest", 3, game.fault(0));
        due("-2 is not the latest, place", 15, game.fault(1));
        Tape.read(game, "knots 3;");
        due("without", 0, game.fault(0));
        due("without, place", -1, game.fault(1));
        due("what -1", -1, game.fault(-1));
        due("what 2", -1, game.fault(2));
        due("what far", -1, game.fault(FAR));
    }

    // ---- promises 5 to 12, 44

    private void netAndMoves() {
        promise(5, "line");
        SwitchGame game = Tape.game("knots 4;line 2 1;line 0 3;line 3 1;joined 2;gone 1;");
        int[][] rows = {{2, 1, 0}, {0, 3, 2}, {3, 1, 1}};
        for (int i = 0; i < 3; i++) {
            for (int what = 0; what < 3; what++) {
                due("line(" + i + ", " + what + ")", rows[i][what], Checks.lineOf(game, i, what));
            }
        }
        due("no such LINE", 1000, Checks.lineOf(game, 3, 0));
        due("no such LINE below", 1000, Checks.lineOf(game, -1, 0));
        due("no such LINE and what", 1000, Checks.lineOf(game, LOW, FAR));
        due("no such what", 2000, Checks.lineOf(game, 0, 3));
        due("no such what below", 2000, Checks.lineOf(game, 0, -1));

        promise(6, "place");
        due("own", 0, game.place(0));
        due("with 3", 1, game.place(1));
        due("of 3", 1, game.place(3));
        due("of 2", 2, game.place(2));
        due("none", -1, game.place(4));
        due("below", -1, game.place(-1));

        promise(7, "reaches");
        due("joined", 10, game.reaches(3, 0));
        due("open too", 14, game.reaches(3, 1));
        due("itself", 1, game.reaches(0, 1));
        due("what 2", -1, game.reaches(0, 2));
        due("what -1", -1, game.reaches(0, -1));
        due("no knot", -1, game.reaches(4, 0));
        due("no knot below", -1, game.reaches(-1, 0));

        promise(8, "move");
        game = Tape.game(BRIDGE);
        due("no such LINE", -1, game.move(5));
        due("below", -1, game.move(-1));
        due("CUT cuts", 2, game.move(0));
        due("state", 2, game.line(0, 2));
        due("JOIN moves then", 0, game.now(0));
        due("not OPEN", -2, game.move(0));
        due("JOIN joins", 2, game.move(4));
        due("state", 1, game.line(4, 2));
        due("CUT wins", 1, game.move(1));
        due("OVER", -3, game.move(2));
        due("not OPEN goes first", -2, game.move(1));
        due("NONE goes first", -1, game.move(5));
        game = Tape.game("knots 2;line 0 1;line 0 1;first join;");
        due("JOIN wins", 0, game.move(1));
        due("OVER", -3, game.move(0));
        due("the other one is to move", 1, game.now(0));

        promise(9, "pass");
        due("OVER", 0, game.pass() ? 1 : 0);
        game.undo();
        due("not OVER", 1, game.pass() ? 1 : 0);
        due("mover", 1, game.now(0));
        due("twice", 1, game.pass() ? 1 : 0);
        due("mover again", 0, game.now(0));
        due("who has it", 2, game.now(1));

        promise(10, "undo");
        due("a pass", -2, game.undo());
        due("a pass", -2, game.undo());
        due("none", -1, game.undo());
        due("mover", 0, game.now(0));
        game.move(0);
        due("a LINE", 0, game.undo());
        due("OPEN again", 0, game.line(0, 2));
        due("mover again", 0, game.now(0));
        due("none again", -1, game.undo());
        undoneAtMost();

        promise(12, "now");
        game = Tape.game("knots 5;ends 0 4;line 0 1;line 1 2;line 2 3;line 3 4;line 0 4;joined 1;gone 4;first join;");
        int[] now = {0, 2, 3, 1, 1, 4, 0};
        for (int what = 0; what < now.length; what++) {
            due("now(" + what + ")", now[what], game.now(what));
        }
        due("what -1", -1, game.now(-1));
        due("what 7", -1, game.now(7));
        game.move(0);
        due("PLACES", 3, game.now(5));
        due("to undo", 1, game.now(6));

        promise(44, "count");
        int[] count = {5, 5, 0, 4, 10, 0};
        for (int what = 0; what < count.length; what++) {
            due("count(" + what + ")", count[what], game.count(what));
        }
        game.feed(0, 0, 0, 0, 0);
        due("tape fed", 20, game.count(5));
        due("what -1", -1, game.count(-1));
        due("what 6", -1, game.count(6));
    }

    private void undoneAtMost() {
        SwitchGame game = Tape.game(BRIDGE);
        promise(11, "written");
        due("none", -2, game.written(0));
        due("below", -1, game.written(-1));
        game.move(3);
        for (int turn = 0; turn < 38; turn++) {
            game.pass();
        }
        game.move(2);
        due("forty", 40, game.now(6));
        due("the eldest", 3, game.written(0));
        due("a pass", -3, game.written(1));
        due("the latest", 2, game.written(39));
        due("not so many", -2, game.written(40));
        due("far", -2, game.written(FAR));
        due("lowest", -1, game.written(LOW));
        game.pass();
        due("still forty", 40, game.now(6));
        due("the eldest is forgotten", -3, game.written(0));
        due("the move is ahead", 2, game.written(38));
        due("the latest is a pass", -3, game.written(39));
        promise(10, "undo, forty at most");
        due("a pass", -2, game.undo());
        due("the move", 2, game.undo());
        for (int turn = 0; turn < 38; turn++) {
            due("pass " + turn, -2, game.undo());
        }
        due("forgotten", -1, game.undo());
        due("it stays", 2, game.line(3, 2));
        due("mover", 0, game.now(0));
    }

    // ---- promises 13 to 18

    private void pairAndWins() {
        SwitchGame safe = Tape.game(SAFE);
        SwitchGame bridge = Tape.game(BRIDGE);
        SwitchGame roads = Tape.game(ROADS);
        SwitchGame had = Tape.game("knots 2;line 0 1;line 0 1;line 0 1;joined 0;");
        SwitchGame lost = Tape.game("knots 3;line 0 1;line 0 1;");

        promise(13, "pair");
        int[] pair = {7, 5, 10, 3};
        for (int what = 0; what < 4; what++) {
            due("pair(" + what + ")", pair[what], safe.pair(what));
            due("none in the bridge", -2, bridge.pair(what));
            due("none where JOIN has it", -2, had.pair(what));
        }
        due("what 4", -1, safe.pair(4));
        due("what -1", -1, safe.pair(-1));
        due("what goes first", -1, bridge.pair(4));
        SwitchGame few = Tape.game("knots 3;ends 0 1;line 0 2;line 0 2;line 1 2;line 1 2;line 0 1;line 0 1;");
        due("the fewest PLACES", 3, few.pair(0));
        due("A", 16, few.pair(1));
        due("B", 32, few.pair(2));
        SwitchGame places = Tape.game("knots 4;ends 1 3;line 0 1;line 0 3;line 2 3;joined 0;joined 2;line 1 2;");
        due("PLACES by their least KNOTS", 5, places.pair(0));
        due("A by PLACES", 2, places.pair(1));
        due("B by PLACES", 8, places.pair(2));

        promise(14, "outcome");
        due("SAFE", 0, safe.outcome());
        due("KEEN alone", 2, bridge.outcome());
        due("not KEEN", 1, roads.outcome());
        due("JOIN has it", 0, had.outcome());
        due("CUT has it", 1, lost.outcome());

        promise(15, "wins");
        for (int k = 0; k < 5; k++) {
            due("JOIN in the bridge", k, bridge.wins(0, k));
            due("CUT in the bridge", k, bridge.wins(1, k));
            due("JOIN where it is SAFE", k, safe.wins(0, k));
            due("CUT where it is SAFE", -2, safe.wins(1, k));
            due("JOIN where it isn't KEEN", -2, roads.wins(0, k));
        }
        due("CUT where it isn't KEEN", 3, roads.wins(1, 3));
        due("not so many", -2, roads.wins(1, 4));
        due("not so many", -2, bridge.wins(0, 5));
        due("far", -2, bridge.wins(0, FAR));
        due("who 2", -1, bridge.wins(2, 0));
        due("who -1", -1, bridge.wins(-1, 0));
        due("k -1", -1, bridge.wins(0, -1));
        due("JOIN, OVER", -2, had.wins(0, 0));
        due("CUT, OVER", -2, lost.wins(1, 0));
        SwitchGame one = Tape.game("knots 3;ends 0 1;line 1 2;line 0 1;");
        due("JOIN by the one that tells", 1, one.wins(0, 0));
        due("and no other", -2, one.wins(0, 1));
        due("CUT by the one that tells", 1, one.wins(1, 0));
        due("and no other", -2, one.wins(1, 1));

        promise(16, "answer");
        int[] answers = {1, 0, 3, 2, 0};
        for (int i = 0; i < 5; i++) {
            due("answer(" + i + ")", answers[i], safe.answer(i));
        }
        due("no such LINE", -1, safe.answer(5));
        due("below", -1, safe.answer(-1));
        due("no PAIR", -3, bridge.answer(0));
        due("not OPEN goes first", -2, had.answer(0));
        due("JOIN has it", -3, had.answer(1));

        promise(17, "exchange");
        int[] exchanges = {1, 0, 3, 2, -2};
        for (int i = 0; i < 5; i++) {
            due("exchange(" + i + ")", exchanges[i], safe.exchange(i));
        }
        due("no such LINE", -1, safe.exchange(5));
        due("below", -1, bridge.exchange(-1));
        due("no PAIR", -3, bridge.exchange(0));
        due("no PAIR ahead of -2", -3, had.exchange(0));

        promise(18, "played");
        int[] played = {0, 1, 4, 2, 3};
        due("bridge", 5, bridge.played(-1));
        for (int k = 0; k < 5; k++) {
            due("played(" + k + ")", played[k], bridge.played(k));
        }
        due("not so many", -2, bridge.played(5));
        due("far", -2, bridge.played(FAR));
        due("no such what", -3, bridge.played(-2));
        due("lowest", -3, bridge.played(LOW));
        due("OVER", 0, had.played(-1));
        due("OVER, the first", -2, had.played(0));
        due("nothing changes", 0, bridge.now(6));
    }

    // ---- promises 19 to 21, 33, 34

    private void gamesGoneThrough() {
        SwitchGame safe = Tape.game(SAFE);
        SwitchGame bridge = Tape.game(BRIDGE);
        SwitchGame roads = Tape.game(ROADS);
        SwitchGame eleven = Tape.game(ELEVEN);
        SwitchGame had = Tape.game("knots 2;line 0 1;line 0 1;line 0 1;joined 0;");
        SwitchGame lost = Tape.game("knots 3;line 0 1;line 0 1;");

        promise(19, "verified");
        due("games", 15, safe.verified(0));
        due("JOIN has it", 15, safe.verified(1));
        due("no PAIR", -2, bridge.verified(0));
        due("JOIN has it already", -2, had.verified(0));
        due("eleven OPEN", -2, eleven.verified(0));
        due("what 2", -1, eleven.verified(2));
        due("what -1", -1, safe.verified(-1));
        eleven.move(0);
        due("ten OPEN", 10, eleven.verified(0));

        promise(20, "full");
        due("SAFE, JOIN begins", 0, safe.full(0));
        due("SAFE, CUT begins", 0, safe.full(1));
        due("bridge, JOIN begins", 0, bridge.full(0));
        due("bridge, CUT begins", 1, bridge.full(1));
        due("roads, JOIN begins", 1, roads.full(0));
        due("roads, CUT begins", 1, roads.full(1));
        due("JOIN has it", 0, had.full(1));
        due("CUT has it", 1, lost.full(0));
        due("ten OPEN", 0, eleven.full(1));
        eleven.undo();
        due("eleven OPEN", -2, eleven.full(0));
        due("who 2", -1, eleven.full(2));
        due("who -1", -1, safe.full(-1));

        promise(21, "positions");
        int[] positions = {59, 59, 125, 243};
        for (int what = 0; what < 4; what++) {
            due("positions(" + what + ")", positions[what], bridge.positions(what));
            due("eleven OPEN", -2, eleven.positions(what));
        }
        due("what 4", -1, eleven.positions(4));
        due("what -1", -1, bridge.positions(-1));
        due("JOIN has all", 9, had.positions(0));
        due("CUT has all", 9, lost.positions(1));

        promise(33, "cutAnswer");
        int[] cut = {1, 0, 3, 2};
        for (int i = 0; i < 4; i++) {
            due("cutAnswer(" + i + ")", cut[i], roads.cutAnswer(i));
        }
        due("no such LINE", -1, roads.cutAnswer(4));
        due("below", -1, roads.cutAnswer(-1));
        due("none: it is SAFE then", -2, bridge.cutAnswer(0));
        due("OVER", -2, lost.cutAnswer(0));
        due("JOIN has it", -2, had.cutAnswer(1));
        due("not OPEN", -2, had.cutAnswer(0));
        SwitchGame one = Tape.game("knots 3;ends 0 1;line 1 2;line 0 1;");
        due("by that LINE JOIN has it", -2, one.cutAnswer(1));
        due("the one that tells", 1, one.cutAnswer(0));

        promise(34, "verifiedForCut");
        due("games", 8, roads.verifiedForCut(0));
        due("CUT has it", 8, roads.verifiedForCut(1));
        due("KEEN", -2, bridge.verifiedForCut(0));
        due("SAFE", -2, safe.verifiedForCut(1));
        due("CUT has it already", 1, lost.verifiedForCut(0));
        due("CUT has it already", 1, lost.verifiedForCut(1));
        due("what 2", -1, bridge.verifiedForCut(2));
        due("what -1", -1, roads.verifiedForCut(-1));
        SwitchGame apart = Tape.game(ELEVEN.replace("knots 2;", "knots 3;"));
        due("eleven OPEN", -2, apart.verifiedForCut(0));
    }

    // ---- promises 22 to 25, 35 to 37, 39, 40

    private void setsOfLines() {
        SwitchGame bridge = Tape.game(BRIDGE);
        SwitchGame roads = Tape.game(ROADS);
        SwitchGame had = Tape.game("knots 2;line 0 1;line 0 1;line 0 1;joined 0;");
        SwitchGame lost = Tape.game("knots 3;line 0 1;line 0 1;");

        promise(22, "wall");
        due("how many", 2, bridge.wall(0));
        due("which", 3, bridge.wall(1));
        due("JOIN has it", -2, had.wall(0));
        due("CUT has it", 0, lost.wall(0));
        due("CUT has it, which", 0, lost.wall(1));
        due("what 2", -1, had.wall(2));
        due("what -1", -1, bridge.wall(-1));

        promise(23, "road");
        due("how many", 2, bridge.road(0));
        due("which", 9, bridge.road(1));
        due("CUT has it", -2, lost.road(0));
        due("JOIN has it", 0, had.road(0));
        due("JOIN has it, which", 0, had.road(1));
        due("what 2", -1, lost.road(2));
        due("what -1", -1, bridge.road(-1));

        promise(24, "lucky");
        int[] lucky = {0, 0, 2, 8, 5, 1};
        for (int k = 0; k <= 5; k++) {
            due("lucky(" + k + ")", lucky[k], bridge.lucky(k));
        }
        due("any number", 16, bridge.lucky(-1));
        due("below NONE", -2, bridge.lucky(-2));
        due("more than are OPEN", -2, bridge.lucky(6));
        due("far", -2, bridge.lucky(FAR));
        due("JOIN has it", 4, had.lucky(-1));
        due("JOIN has it, none", 1, had.lucky(0));
        due("CUT has it", 0, lost.lucky(-1));
        due("not by lines that aren't OPEN", -2, had.lucky(3));

        promise(25, "luckyWith");
        due("outer", 11, bridge.luckyWith(0));
        due("middle", 9, bridge.luckyWith(2));
        due("no such LINE", -1, bridge.luckyWith(5));
        due("below", -1, bridge.luckyWith(-1));
        due("not OPEN", -2, had.luckyWith(0));
        due("JOIN has it", 2, had.luckyWith(2));

        promise(35, "pivots");
        due("outer", 6, bridge.pivots(4));
        due("middle", 2, bridge.pivots(2));
        due("no such LINE", -1, bridge.pivots(5));
        due("below", -1, bridge.pivots(-1));
        due("not OPEN", -2, had.pivots(0));
        due("JOIN has it", 0, had.pivots(1));

        promise(36, "needed");
        due("none", 0, bridge.needed());
        due("no LUCKY sets", 0, lost.needed());
        due("JOIN has it", 0, had.needed());
        bridge.move(1);
        due("one", 1, bridge.needed());
        bridge.undo();
        due("all of one road", 5, Tape.game("knots 3;line 0 1;line 0 1;line 1 2;gone 1;").needed());

        promise(37, "walls");
        int[] walls = {0, 0, 2, 8, 5, 1};
        for (int k = 0; k <= 5; k++) {
            due("walls(" + k + ")", walls[k], bridge.walls(k));
        }
        due("two of two roads", 4, roads.walls(2));
        due("any number", 9, roads.walls(-1));
        due("below NONE", -2, bridge.walls(-2));
        due("more than are OPEN", -2, bridge.walls(6));
        due("JOIN has it", 0, had.walls(-1));
        due("CUT has it", 4, lost.walls(-1));
        due("CUT has it, none", 1, lost.walls(0));

        promise(39, "alike");
        due("of one road", 1, roads.alike(0, 1));
        due("of two roads", 0, roads.alike(0, 2));
        due("itself", 1, bridge.alike(2, 2));
        due("bridge", 0, bridge.alike(0, 1));
        due("idle both", 1, had.alike(1, 2));
        due("one isn't OPEN", -2, had.alike(0, 1));
        due("the other isn't OPEN", -2, had.alike(1, 0));
        due("itself, not OPEN", -2, had.alike(0, 0));
        due("no such one", -1, had.alike(0, 3));
        due("below", -1, had.alike(-1, 0));

        promise(40, "strong");
        int[] strong = {0, 1, 3, 4, 2};
        for (int k = 0; k < 5; k++) {
            due("strong(" + k + ")", strong[k], bridge.strong(k));
        }
        due("not so many", -2, bridge.strong(5));
        due("far", -2, bridge.strong(FAR));
        due("below", -1, bridge.strong(-1));
        due("only OPEN ones", 1, had.strong(0));
        due("only OPEN ones, not so many", -2, had.strong(2));
    }

    // ---- promises 26, 27, 38, 41

    private void treesAndForests() {
        SwitchGame bridge = Tape.game(BRIDGE);
        SwitchGame had = Tape.game("knots 2;line 0 1;line 0 1;line 0 1;joined 0;");
        SwitchGame apart = Tape.game("knots 4;line 0 1;line 2 3;");

        promise(26, "trees");
        due("bridge", 8, bridge.trees());
        due("one PLACE", 1, had.trees());
        due("apart", 0, apart.trees());
        due("many lines", 11, Tape.game(ELEVEN).trees());
        due("eight KNOTS in a ring", 8, Tape.game("knots 8;line 0 1;line 1 2;line 2 3;line 3 4;line 4 5;line 5 6;"
                + "line 6 7;line 7 0;").trees());

        promise(27, "treesWith");
        due("middle", 4, bridge.treesWith(2));
        due("outer", 5, bridge.treesWith(0));
        due("within a PLACE", 0, had.treesWith(1));
        due("not OPEN", -2, had.treesWith(0));
        due("no such LINE", -1, bridge.treesWith(5));
        due("below", -1, bridge.treesWith(-1));

        promise(38, "set");
        SwitchGame game = Tape.game("knots 4;ends 0 1;line 0 1;line 0 1;line 1 3;line 1 3;line 0 2;line 0 2;");
        int[] sets = {3, 7, 11, 15};
        for (int k = 0; k < 4; k++) {
            due("set(" + k + ")", sets[k], game.set(k));
        }
        due("not so many", -2, game.set(4));
        due("far", -2, game.set(FAR));
        due("below", -1, game.set(-1));
        due("JOIN has it", -2, had.set(0));
        due("no PAIR", -2, bridge.set(0));

        promise(41, "forests");
        int[] forests = {5, 5, 26};
        for (int what = 0; what < 3; what++) {
            due("forests(" + what + ")", forests[what], bridge.forests(what));
        }
        due("within a PLACE", 0, had.forests(0));
        due("within a PLACE, first", 0, had.forests(1));
        due("within a PLACE, second", 0, had.forests(2));
        due("apart", 2, apart.forests(0));
        due("the first may be none", 0, apart.forests(1));
        due("apart, second", 3, apart.forests(2));
        due("what 3", -1, bridge.forests(3));
        due("what -1", -1, bridge.forests(-1));
    }

    // ---- promises 28 to 32

    private void whatWouldBe() {
        SwitchGame tail = Tape.game(TAIL);
        SwitchGame bridge = Tape.game(BRIDGE);
        SwitchGame roads = Tape.game(ROADS);
        SwitchGame had = Tape.game("knots 2;line 0 1;line 0 1;line 0 1;joined 0;");

        promise(28, "idle");
        due("leads nowhere", 1, tail.idle(2));
        due("of the PAIR", 0, tail.idle(0));
        due("JOIN has it", 1, had.idle(1));
        due("not OPEN", -2, had.idle(0));
        due("no such LINE", -1, tail.idle(3));
        due("below", -1, tail.idle(-1));

        promise(29, "ifLine");
        due("joined", 0, bridge.ifLine(2, 0));
        due("gone", 1, bridge.ifLine(2, 1));
        due("SAFE, gone", 2, tail.ifLine(0, 1));
        due("roads, joined", 2, roads.ifLine(0, 0));
        due("roads, gone", 1, roads.ifLine(0, 1));
        due("not OPEN", -2, had.ifLine(0, 1));
        due("how 2", -1, had.ifLine(0, 2));
        due("how -1", -1, bridge.ifLine(0, -1));
        due("no such LINE", -1, bridge.ifLine(5, 0));
        due("below", -1, bridge.ifLine(-1, 0));
        due("nothing changes", 5, bridge.now(2));

        promise(30, "ifMore");
        due("bridge, ends", 0, bridge.ifMore(0, 3));
        due("bridge, beside", 0, bridge.ifMore(2, 1));
        due("roads, ends", 2, roads.ifMore(3, 0));
        due("roads, middles", 2, roads.ifMore(1, 2));
        due("one and the same", -1, bridge.ifMore(1, 1));
        due("no such one", -1, bridge.ifMore(0, 4));
        due("below", -1, bridge.ifMore(-1, 2));
        StringBuilder full = new StringBuilder("knots 3;ends 0 2;");
        for (int i = 0; i < 14; i++) {
            full.append("line 0 1;");
        }
        SwitchGame fourteen = Tape.game(full.toString());
        due("a 15th", 2, fourteen.ifMore(1, 2));
        due("a 15th that doesn't help", 1, fourteen.ifMore(0, 1));
        due("still fourteen", 14, fourteen.count(1));

        promise(31, "ifEnds");
        due("now", 2, bridge.ifEnds(0, 3));
        due("turned", 2, bridge.ifEnds(3, 0));
        due("middles", 2, bridge.ifEnds(1, 2));
        due("SAFE ones", 0, Tape.game(SAFE).ifEnds(0, 1));
        due("tail", 2, tail.ifEnds(1, 2));
        due("one PLACE", 0, had.ifEnds(0, 1));
        due("one and the same", -1, bridge.ifEnds(2, 2));
        due("no such one", -1, bridge.ifEnds(4, 0));
        due("below", -1, bridge.ifEnds(0, -1));
        due("ends stay", 3, bridge.count(3));

        promise(32, "lacks");
        due("SAFE", 0, tail.lacks());
        due("KEEN", 1, bridge.lacks());
        due("not KEEN", 2, roads.lacks());
        due("JOIN has it", 0, had.lacks());
        due("CUT has it", 2, new SwitchGame().lacks());
    }

    // ---- promises 42, 43

    private void chances() {
        promise(42, "duel");
        SwitchGame safe = Tape.game(SAFE);
        due("two rounds", 4, safe.duel(0));
        due("two rounds", 4, safe.duel(FAR));
        due("no such seed", -1, safe.duel(-1));
        due("no PAIR", -2, Tape.game(BRIDGE).duel(0));
        due("no such seed, no PAIR", -1, Tape.game(BRIDGE).duel(LOW));
        due("nothing changes", 5, safe.now(2));
        // With seed 1 the first draw of three is 16838 by 3, 2 left: the line that leads nowhere.
        due("answered at once", 2, Tape.game(TAIL).duel(1));

        promise(43, "chance");
        // Draws from seed 1: 16838 5758 10113 17515, 31051 5627 23010, 7419 16212; line 0 alone tells.
        SwitchGame game = Tape.game("knots 3;ends 0 1;line 0 1;line 1 2;line 1 2;line 1 2;");
        due("seed 0: CUT draws line 0", 0, game.chance(0, 1));
        due("one game", 1, game.chance(1, 1));
        due("two games", 1, game.chance(1, 2));
        due("three games", 2, game.chance(1, 3));
        due("nothing changes", 4, game.now(2));
        due("no such seed", -1, game.chance(-1, 1));
        due("no games", -1, game.chance(1, 0));
        due("fifty-one", -1, game.chance(1, 51));
        SwitchGame two = Tape.game("knots 2;line 0 1;line 0 1;");
        due("fifty, each JOIN's", 50, two.chance(FAR, 50));
        due("OVER for JOIN", 7, Tape.game("knots 2;line 0 1;joined 0;").chance(5, 7));
        due("OVER for CUT", 0, Tape.game("knots 2;line 0 1;gone 0;").chance(5, 7));
        two.pass();
        two.move(0);
        due("JOIN has moved", 3, two.chance(0, 3));
    }
}
