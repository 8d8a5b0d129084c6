/** Edges of sets of OPEN lines: LUCKY ones, WALLS, PIVOTS, and lines by them. */
final class SetEdges extends Edges {
    /** Seven lines in a row between the ends. */
    private static final String ROW = "knots 8;line 0 1;line 1 2;line 2 3;line 3 4;line 4 5;line 5 6;line 6 7;";
    private static final String FOURTEEN = lines("knots 2;", 14);
    /** Three lines 0-1 and one 1-2. */
    private static final String NECK = "knots 3;line 0 1;line 0 1;line 0 1;line 1 2;";

    SetEdges(Checks checks, Sentences sentences) {
        super(checks, sentences);
    }

    @Override
    void run() {
        walls();
        wall();
        roads();
        road();
        lucky();
        luckyWith();
        pivots();
        needed();
        wallsOfSize();
        alike();
        strong();
    }

    private void isWall(String text, int lines) {
        row("wall in '" + text + "'", game(text)::wall, 0, Integer.bitCount(lines), lines);
    }

    private void isRoad(String text, int lines) {
        row("road in '" + text + "'", game(text)::road, 0, Integer.bitCount(lines), lines);
    }

    private void walls() {
        terms("WALL: the fewest OPEN LINES without which CUT would HAVE it; of several the least as bits.");
        isWall(NECK, 8);
        isWall(ROADS, 5);
        isWall(ROW, 1);
        isWall(FOURTEEN, 16383);
        isWall("knots 3;line 0 1;line 1 2;line 1 2;joined 0;", 6);
        isWall("knots 3;line 0 1;line 0 1;line 1 2;line 1 2;gone 0;", 2);
        isWall("knots 4;line 0 1;line 0 2;line 2 3;line 1 3;", 3);
        isWall(LOST, 0);
    }

    private void wall() {
        promise(22, "WALL, what 0 how many, 1 which (bits);");
        isWall("knots 2;line 0 1;", 1);
        isWall(BRIDGE, 3);
        isWall(STANDING_KEEN, 136);
        row("wall, CUT HAS it", new SwitchGame()::wall, 0, 0, 0);

        promise(22, "-2: JOIN HAS it;");
        row("wall, JOIN HAS it", game(HAD)::wall, 0, -2, -2);
        row("wall, JOIN HAS it, none OPEN", game("knots 2;line 0 1;joined 0;")::wall, 0, -2, -2);
        SwitchGame game = game("knots 2;line 0 1;first join;");
        row("wall", game::wall, 0, 1, 1);
        game.move(0);
        row("wall, JOIN HAS it then", game::wall, 0, -2, -2);

        promise(22, "NONE for another what.");
        beyond("wall", game(BRIDGE)::wall, -1, 0, 1);
        beyond("wall, JOIN HAS it", game(HAD)::wall, -1, 0, 1);
    }

    private void roads() {
        terms("ROAD: the fewest OPEN LINES by which, JOINED, JOIN would HAVE it; of several the least as bits.");
        isRoad("knots 3;line 0 1;line 1 2;line 0 2;", 4);
        isRoad("knots 4;line 0 1;line 0 2;line 2 3;line 1 3;", 6);
        isRoad(ROW, 127);
        isRoad(FOURTEEN, 1);
        isRoad(FOURTEEN + "gone 0;gone 1;", 4);
        isRoad("knots 3;line 0 1;line 1 2;joined 0;", 2);
        isRoad("knots 3;line 0 2;line 0 1;line 1 2;gone 0;", 6);
        isRoad(HAD, 0);
    }

    private void road() {
        promise(23, "ROAD, what 0 how many, 1 which (bits);");
        isRoad("knots 2;line 0 1;", 1);
        isRoad(BRIDGE, 9);
        isRoad(STANDING_KEEN, 8);
        isRoad("knots 2;line 0 1;joined 0;", 0);

        promise(23, "-2: CUT HAS it;");
        row("road, CUT HAS it", game(LOST)::road, 0, -2, -2);
        row("road, new", new SwitchGame()::road, 0, -2, -2);
        SwitchGame game = game("knots 2;line 0 1;");
        row("road", game::road, 0, 1, 1);
        game.move(0);
        row("road, CUT HAS it then", game::road, 0, -2, -2);

        promise(23, "NONE for another what.");
        beyond("road", game(BRIDGE)::road, -1, 0, 1);
        beyond("road, CUT HAS it", game::road, -1, 0, 1);
    }

    private void lucky() {
        terms("LUCKY sets: sets of OPEN LINES by which, JOINED, JOIN would HAVE it.");
        row("lucky of one that is enough", game(HAD)::lucky, -1, 4, 1, 2, 1);
        row("lucky of none", game(LOST)::lucky, -1, 0, 0, 0, 0);
        row("lucky of a row", game(ROW)::lucky, -1, 1, 0, 0, 0, 0, 0, 0, 0, 1);
        row("lucky, JOINED ones are there", game("knots 3;line 0 1;line 1 2;line 1 2;joined 0;")::lucky, -1, 3, 0, 2, 1);
        row("lucky, GONE ones are not", game("knots 2;line 0 1;line 0 1;gone 0;")::lucky, -1, 1, 0, 1, -2);

        promise(24, "How many LUCKY sets there are of k OPEN LINES;");
        row("lucky", game(BRIDGE)::lucky, 0, 0, 0, 2, 8, 5, 1);
        row("lucky of fourteen", game(FOURTEEN)::lucky, 0,
                0, 14, 91, 364, 1001, 2002, 3003, 3432, 3003, 2002, 1001, 364, 91, 14, 1);
        due("of no lines, none OPEN, JOIN HAS it", 1, game("knots 2;line 0 1;joined 0;").lucky(0));
        due("of no lines, none OPEN, CUT HAS it", 0, new SwitchGame().lucky(0));

        promise(24, "k NONE: of any number;");
        due("bridge", 16, game(BRIDGE).lucky(-1));
        due("fourteen", 16383, game(FOURTEEN).lucky(-1));
        due("lines of all states", 20, game(STANDING_KEEN).lucky(-1));
        due("JOIN HAS it, thirteen OPEN", 8192, game(FOURTEEN + "joined 13;").lucky(-1));
        due("none OPEN", 0, new SwitchGame().lucky(-1));

        promise(24, "-2: no such k (below NONE, more than are OPEN).");
        below("lucky", game(BRIDGE)::lucky, -2, -1);
        above("lucky", game(BRIDGE)::lucky, -2, 5);
        above("lucky of fourteen", game(FOURTEEN)::lucky, -2, 14);
        above("lucky, three lines, two OPEN", game(HAD)::lucky, -2, 2);
        above("lucky, none", new SwitchGame()::lucky, -2, 0);
        below("lucky, none", new SwitchGame()::lucky, -2, -1);
    }

    private void luckyWith() {
        promise(25, "How many LUCKY sets have a LINE (sets of any number);");
        row("luckyWith", game(BRIDGE)::luckyWith, 0, 11, 11, 9, 11, 11);
        row("luckyWith of a row", game(ROW)::luckyWith, 0, 1, 1, 1, 1, 1, 1, 1);
        SwitchGame fourteen = game(FOURTEEN);
        for (int i = 0; i < 14; i++) {
            due("luckyWith(" + i + ") of fourteen", 8192, fourteen.luckyWith(i));
        }
        row("luckyWith, lines of all states", game(STANDING_KEEN)::luckyWith, 0, -2, 10, -2, 16, -2, 10, -2, 12, 12);
        row("luckyWith, CUT HAS it", game(LOST)::luckyWith, 0, 0, 0);
        row("luckyWith, JOIN HAS it", game(HAD)::luckyWith, 1, 2, 2);

        promise(25, "-2: it isn't OPEN;");
        due("JOINED", -2, game(HAD).luckyWith(0));
        due("GONE", -2, game(LOST).luckyWith(2));
        row("luckyWith, one GONE", game(BRIDGE + "gone 2;")::luckyWith, 0, 5, 5, -2, 5, 5);

        promise(25, "NONE: no such LINE.");
        beyond("luckyWith", game(BRIDGE)::luckyWith, -1, 0, 4);
        beyond("luckyWith of fourteen", fourteen::luckyWith, -1, 0, 13);
        beyond("luckyWith of none", new SwitchGame()::luckyWith, -1, 0, -1);
    }

    private void pivots() {
        terms("PIVOT: a LUCKY set that has a LINE and isn't LUCKY without it.");
        row("pivots of a row", game(ROW)::pivots, 0, 1, 1, 1, 1, 1, 1, 1);
        row("pivots where each is enough", game("knots 2;line 0 1;line 0 1;line 0 1;")::pivots, 0, 1, 1, 1);
        row("pivots, one leads nowhere", game("knots 3;ends 0 1;line 1 2;line 0 1;")::pivots, 0, 0, 2);
        row("pivots, JOIN HAS it", game(HAD)::pivots, 1, 0, 0);
        row("pivots, CUT HAS it", game(LOST)::pivots, 0, 0, 0);

        promise(35, "How many LUCKY sets a LINE is the PIVOT of;");
        row("pivots", game(BRIDGE)::pivots, 0, 6, 6, 2, 6, 6);
        row("pivots, lines of all states", game(STANDING_KEEN)::pivots, 0, -2, 0, -2, 12, -2, 0, -2, 4, 4);
        row("pivots of a neck", game(NECK)::pivots, 0, 1, 1, 1, 7);
        due("the last of fourteen", 1, game(FOURTEEN).pivots(13));
        due("the one of fourteen that tells", 8192, game("knots 3;ends 0 1;" + "line 1 2;".repeat(13) + "line 0 1;").pivots(13));

        promise(35, "-2: it isn't OPEN;");
        due("JOINED", -2, game(HAD).pivots(0));
        due("GONE", -2, game(LOST).pivots(2));
        row("pivots, one GONE", game(BRIDGE + "gone 2;")::pivots, 0, 3, 3, -2, 3, 3);

        promise(35, "NONE: no such LINE.");
        beyond("pivots", game(BRIDGE)::pivots, -1, 0, 4);
        beyond("pivots of fourteen", game(FOURTEEN)::pivots, -1, 0, 13);
        beyond("pivots of none", new SwitchGame()::pivots, -1, 0, -1);
    }

    private void needed() {
        promise(36, "OPEN LINES that all LUCKY sets have, as bits");
        due("a row", 127, game(ROW).needed());
        due("a row, one JOINED", 119, game(ROW + "joined 3;").needed());
        due("a neck", 8, game(NECK).needed());
        due("each is enough", 0, game(FOURTEEN).needed());
        due("lines of all states, but one road GONE", 384, game(STANDING_KEEN + "gone 3;").needed());
        due("one is left", 8192, game("knots 3;ends 0 1;" + "line 1 2;".repeat(13) + "line 0 1;").needed());
        due("none at all is a LUCKY set", 0, game(HAD).needed());

        promise(36, "(0, if there are no LUCKY sets, too).");
        due("two OPEN", 0, game(LOST).needed());
        due("fourteen OPEN", 0, game(lines("knots 3;", 14)).needed());
        due("none OPEN", 0, new SwitchGame().needed());
    }

    private void wallsOfSize() {
        terms("WALLS: sets of OPEN LINES without which CUT would HAVE it.");
        row("walls of a row", game(ROW)::walls, -1, 127, 0, 7, 21, 35, 35, 21, 7, 1);
        row("walls, JOIN HAS it", game(HAD)::walls, -1, 0, 0, 0, 0);
        row("walls, CUT HAS it", game(LOST)::walls, -1, 4, 1, 2, 1);
        row("walls, JOINED ones stay", game("knots 3;line 0 1;line 1 2;line 1 2;joined 0;")::walls, -1, 1, 0, 0, 1);
        row("walls, GONE ones are none", game("knots 2;line 0 1;line 0 1;gone 0;")::walls, -1, 1, 0, 1, -2);

        promise(37, "How many WALLS there are of k OPEN LINES;");
        row("walls", game(BRIDGE)::walls, 0, 0, 0, 2, 8, 5, 1);
        row("walls of a neck", game(NECK)::walls, 0, 0, 1, 3, 4, 1);
        row("walls of fourteen", game(FOURTEEN)::walls, 0, 0, 0, 0, 0, 0, 0, 0, 0, 0, 0, 0, 0, 0, 0, 1);
        due("of no lines, none OPEN, CUT HAS it", 1, new SwitchGame().walls(0));
        due("of no lines, none OPEN, JOIN HAS it", 0, game("knots 2;line 0 1;joined 0;").walls(0));

        promise(37, "k NONE: of any number;");
        due("two roads", 9, game(ROADS).walls(-1));
        due("lines of all states", 12, game(STANDING_KEEN).walls(-1));
        due("fourteen", 1, game(FOURTEEN).walls(-1));
        due("fourteen that tell nothing", 16384, game(lines("knots 3;", 14)).walls(-1));
        due("none OPEN", 1, new SwitchGame().walls(-1));

        promise(37, "-2: no such k (below NONE, more than are OPEN).");
        below("walls", game(BRIDGE)::walls, -2, -1);
        above("walls", game(BRIDGE)::walls, -2, 5);
        above("walls of fourteen", game(FOURTEEN)::walls, -2, 14);
        above("walls, three lines, two OPEN", game(HAD)::walls, -2, 2);
        above("walls, none", new SwitchGame()::walls, -2, 0);
        below("walls, none", new SwitchGame()::walls, -2, -1);
    }

    private void alike() {
        terms("ALIKE: two OPEN LINES, where each set of OPEN LINES that has just one of both is LUCKY, if it is so with the "
                + "other one in its place, else not.");
        SwitchGame roads = game(ROADS);
        row("alike(0, j)", j -> roads.alike(0, j), 0, 1, 1, 0, 0);
        SwitchGame neck = game(NECK);
        row("alike(1, j) in a neck", j -> neck.alike(1, j), 0, 1, 1, 1, 0);
        SwitchGame bridge = game(BRIDGE);
        row("alike(0, j) in a bridge", j -> bridge.alike(0, j), 0, 1, 0, 0, 0, 0);
        // With 0 gone, 1 and 2 alone make the other road.
        SwitchGame two = game("knots 3;line 0 2;line 0 1;line 1 2;");
        row("alike(1, j), a road of two beside one", j -> two.alike(1, j), 0, 0, 1, 1);

        promise(39, "Whether two LINES are ALIKE (1, 0;");
        SwitchGame standing = game(STANDING_KEEN);
        row("alike(7, j), lines of all states", j -> standing.alike(7, j), 0, -2, 0, -2, 0, -2, 0, -2, 1, 1);
        row("alike(1, j), lines of all states", j -> standing.alike(1, j), 0, -2, 1, -2, 0, -2, 1, -2, 0, 0);
        due("no LUCKY sets", 1, game(LOST).alike(0, 1));
        due("all are LUCKY", 1, game(HAD).alike(1, 2));
        due("the first and the last of fourteen", 1, game(FOURTEEN).alike(0, 13));
        due("one of fourteen tells", 0, game("knots 3;ends 0 1;" + "line 1 2;".repeat(13) + "line 0 1;").alike(13, 0));

        promise(39, "a LINE and itself: 1);");
        for (int i = 0; i < 5; i++) {
            due("alike(" + i + ", " + i + ")", 1, bridge.alike(i, i));
        }
        due("CUT HAS it", 1, game(LOST).alike(1, 1));

        promise(39, "-2: one isn't OPEN;");
        SwitchGame had = game(HAD);
        due("the first", -2, had.alike(0, 1));
        due("the second", -2, had.alike(1, 0));
        due("both, one and the same", -2, had.alike(0, 0));
        SwitchGame lost = game(LOST);
        due("the first is GONE", -2, lost.alike(2, 0));
        due("the second is GONE", -2, lost.alike(0, 2));

        promise(39, "NONE: no such ones.");
        for (int i = 0; i < 3; i++) {
            int asked = i;
            beyond("alike(" + i + ", j)", j -> had.alike(asked, j), -1, 0, 2);
            beyond("alike(j, " + i + ")", j -> had.alike(j, asked), -1, 0, 2);
        }
        due("both, one and the same", -1, had.alike(3, 3));
        due("both below", -1, had.alike(-1, -1));
    }

    private void strong() {
        terms("STRONG: OPEN LINES by of how many LUCKY sets they are the PIVOT, the most first, of like ones by numbers.");
        row("strong", game(BRIDGE)::strong, 0, 0, 1, 3, 4, 2);
        row("strong in a neck", game(NECK)::strong, 0, 3, 0, 1, 2);
        row("strong, all alike", game(ROW)::strong, 0, 0, 1, 2, 3, 4, 5, 6);
        row("strong, none is a PIVOT", game(LOST)::strong, 0, 0, 1, -2);

        promise(40, "The k-th STRONG LINE (k from 0 on);");
        row("strong, lines of all states", game(STANDING_KEEN)::strong, 0, 3, 7, 8, 1, 5, -2);
        row("strong of OPEN ones", game(HAD)::strong, 0, 1, 2);
        SwitchGame last = game("knots 3;ends 0 1;" + "line 1 2;".repeat(13) + "line 0 1;");
        row("strong of fourteen", last::strong, 0, 13, 0, 1, 2, 3, 4, 5, 6, 7, 8, 9, 10, 11, 12);

        promise(40, "-2: there are not so many;");
        above("strong", game(BRIDGE)::strong, -2, 4);
        above("strong of OPEN ones", game(HAD)::strong, -2, 1);
        above("strong of fourteen", last::strong, -2, 13);
        above("strong of none", new SwitchGame()::strong, -2, -1);

        promise(40, "NONE: k below 0.");
        below("strong", game(BRIDGE)::strong, -1, 0);
        below("strong of none", new SwitchGame()::strong, -1, 0);
    }
}
