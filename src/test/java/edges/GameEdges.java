/** Edges of games: played on, gone through, by all positions, and by chance. */
final class GameEdges extends Edges {
    /** Line 0 lies between the ends, three lines lead nowhere. */
    private static final String ONE_TELLS = "knots 3;ends 0 1;line 0 1;line 1 2;line 1 2;line 1 2;";
    /** Two lines 0-1 and two lines 1-2, between the ends, then lines 2-3 that lead nowhere. */
    private static final String TREES_AND_TAILS = "knots 4;ends 0 2;line 0 1;line 0 1;line 1 2;line 1 2;";
    private static final String[] FIRSTS = {"", "first join;", "first cut;"};

    GameEdges(Checks checks, Sentences sentences) {
        super(checks, sentences);
    }

    @Override
    void run() {
        playedOn();
        played();
        goneThrough();
        verified();
        fullByWords();
        full();
        positions();
        cutAnswers();
        cutAnswer();
        goneThroughForCut();
        verifiedForCut();
        drawn();
        chance();
        duels();
        duel();
    }

    private void isPlayed(String text, int... moves) {
        SwitchGame game = game(text);
        due("moves in '" + text + "'", moves.length, game.played(-1));
        row("played in '" + text + "'", game::played, 0, moves);
        due("no more in '" + text + "'", -2, game.played(moves.length));
    }

    private void playedOn() {
        terms("PLAYED ON: who is to move takes the least LINE that WINS,");
        isPlayed("knots 3;ends 0 1;line 1 2;line 0 1;", 1);
        isPlayed("knots 3;ends 0 1;line 1 2;line 0 1;first join;", 1);
        isPlayed(TWO_TREES + "gone 0;", 1);
        isPlayed(TWO_TREES + "gone 0;first join;", 1, 2, 3);

        terms("else the least OPEN one, till it is OVER.");
        isPlayed(SAFE, 0, 1, 2, 3);
        isPlayed(ROADS + "first join;", 0, 1, 2, 3);
        isPlayed(TWO_TREES, 0, 1, 2, 3);
        isPlayed(lines("knots 2;", 4) + "gone 0;gone 2;", 1, 3);
        isPlayed("knots 8;");
        isPlayed(HAD);
        isPlayed(LOST);
        isPlayed(lines("knots 2;", 14), 0, 1);
        isPlayed(lines("knots 2;", 14) + "first join;", 0);
        isPlayed(STANDING_KEEN, 3, 1, 5, 7, 8);
        isPlayed(STANDING_KEEN + "first join;", 3);
        isPlayed(DOUBLE_CHAIN, 0, 7, 1, 8, 2, 9, 3, 10, 4, 11, 5, 12, 6, 13);
    }

    private void played() {
        promise(18, "PLAYED ON from now, what NONE: how many moves till it is OVER;");
        SwitchGame game = game(ROADS + "first join;");
        due("from the first on", 4, game.played(-1));
        game.move(0);
        due("one less", 3, game.played(-1));
        game.move(1);
        game.move(2);
        game.move(3);
        due("none", 0, game.played(-1));
        due("a new object", 0, new SwitchGame().played(-1));
        due("all fourteen", 14, game(DOUBLE_CHAIN).played(-1));

        promise(18, "else the LINE of move what (0 the first);");
        game = game(DOUBLE_CHAIN);
        due("the first", 0, game.played(0));
        due("the last", 13, game.played(13));
        due("the last but one", 6, game.played(12));

        promise(18, "-2: there are not so many;");
        above("played of fourteen", game::played, -2, 13);
        above("played of one", game("knots 2;line 0 1;")::played, -2, 0);
        above("played of none", new SwitchGame()::played, -2, -1);

        promise(18, "-3: no such what.");
        below("played", game::played, -3, -1);
        below("played, OVER", game(HAD)::played, -3, -1);
        below("played, new", new SwitchGame()::played, -3, -1);
    }

    private void areVerified(String text, int games) {
        row("verified in '" + text + "'", game(text)::verified, 0, games, games);
    }

    private void goneThrough() {
        terms("VERIFIED: there is a PAIR, 10 OPEN LINES at most:");
        areVerified(lines("knots 2;", 10), 10);
        areVerified(lines("knots 2;", 11), -2);
        areVerified(lines("knots 2;", 14), -2);
        areVerified(lines("knots 2;", 14) + "gone 0;gone 1;gone 2;gone 3;", 10);
        areVerified(BRIDGE, -2);

        terms("CUT moves first (whoever is to move), takes each OPEN LINE in turn, JOIN takes the ANSWER, and so on: "
                + "how many such games there are (each till it is OVER);");
        for (String first : FIRSTS) {
            areVerified("knots 2;line 0 1;line 0 1;" + first, 2);
            areVerified(TWO_TREES + first, 8);
            areVerified(SAFE + first, 15);
            // Each of ten lines is answered by one that makes 0 and 1 or 1 and 2 one PLACE; then each of eight is.
            areVerified(TREES_AND_TAILS + "line 2 3;".repeat(6) + first, 80);
        }

        terms("in how many JOIN HAS it.");
        due("all", 15, game(SAFE).verified(1));
        due("all of eighty", 80, game(TREES_AND_TAILS + "line 2 3;".repeat(6)).verified(1));
    }

    private void verified() {
        promise(19, "VERIFIED, what 0 how many games, 1 in how many JOIN HAS it;");
        areVerified(TWO_TREES, 8);
        areVerified(STANDING, 6);
        areVerified(TREES_AND_TAILS + "line 2 3;".repeat(6), 80);

        promise(19, "-2: there is no PAIR,");
        for (String text : new String[] {BRIDGE, ROADS, HAD, LOST, "knots 8;", lines("knots 3;", 10)}) {
            areVerified(text, -2);
        }
        areVerified("knots 2;line 0 1;line 0 1;gone 1;", -2);

        promise(19, "there are more than 10 OPEN;");
        SwitchGame game = game(lines("knots 2;", 12));
        row("verified, twelve", game::verified, 0, -2, -2);
        game.move(0);
        row("verified, eleven", game::verified, 0, -2, -2);
        game.pass();
        game.move(11);
        row("verified, ten", game::verified, 0, 10, 10);
        game.undo();
        row("verified, eleven again", game::verified, 0, -2, -2);

        promise(19, "NONE for another what.");
        beyond("verified", game(SAFE)::verified, -1, 0, 1);
        beyond("verified, no PAIR", game(BRIDGE)::verified, -1, 0, 1);
        beyond("verified, eleven", game::verified, -1, 0, 1);
    }

    private void isFull(String text, int joinFirst, int cutFirst) {
        row("full in '" + text + "'", game(text)::full, -1, -1, joinFirst, cutFirst, -1);
    }

    private void fullByWords() {
        terms("FULL (10 OPEN LINES at most): by all positions: who wins, if JOIN, if CUT is to move");
        isFull(SAFE, 0, 0);
        isFull(ROADS, 1, 1);
        isFull(BRIDGE, 0, 1);
        isFull(lines("knots 2;", 10), 0, 0);
        isFull(lines("knots 2;", 11), -2, -2);
        isFull(lines("knots 3;ends 0 2;line 1 2;", 9), 0, 1);

        terms("(no passes; if none is OPEN it is OVER).");
        isFull("knots 2;", 1, 1);
        isFull("knots 2;line 0 1;joined 0;", 0, 0);
        isFull("knots 2;line 0 1;gone 0;", 1, 1);
        isFull("knots 2;line 0 1;", 0, 1);
    }

    private void full() {
        promise(20, "FULL: who wins (0 JOIN, 1 CUT), if that one (0 JOIN, 1 CUT) is to move;");
        for (String first : FIRSTS) {
            isFull(BRIDGE + first, 0, 1);
            isFull(STANDING + first, 0, 0);
            isFull(STANDING_KEEN + first, 0, 1);
            isFull(HAD + first, 0, 0);
            isFull(LOST + first, 1, 1);
        }

        promise(20, "-2: more than 10 are OPEN;");
        SwitchGame game = game(lines("knots 2;", 11));
        row("full, eleven", game::full, 0, -2, -2);
        game.move(0);
        row("full, ten", game::full, 0, 0, 0);
        isFull(lines("knots 2;", 14) + "joined 0;", -2, -2);
        isFull(lines("knots 3;", 14), -2, -2);

        promise(20, "NONE: no such one.");
        beyond("full", game::full, -1, 0, 1);
        beyond("full, fourteen", game(lines("knots 2;", 14))::full, -1, 0, 1);
        beyond("full, none OPEN", new SwitchGame()::full, -1, 0, 1);
    }

    private void positions() {
        promise(21, "Of all positions by OPEN LINES (each OPEN, JOINED or GONE, all others as they are), in how many JOIN "
                + "(what 0), CUT (1) HAS it, nobody (2), 3: how many there are;");
        row("positions, new", new SwitchGame()::positions, 0, 0, 1, 0, 1);
        row("positions, none OPEN", game("knots 2;line 0 1;joined 0;")::positions, 0, 1, 0, 0, 1);
        row("positions of one", game("knots 2;line 0 1;")::positions, 0, 1, 1, 1, 3);
        row("positions, JOIN HAS it", game(HAD)::positions, 0, 9, 0, 0, 9);
        row("positions, CUT HAS it", game(LOST)::positions, 0, 0, 9, 0, 9);
        row("positions, others as they are", game("knots 3;line 0 1;line 1 2;line 0 2;joined 0;gone 2;")::positions, 0,
                1, 1, 1, 3);
        row("positions, lines of all states", game(STANDING_KEEN)::positions, 0, 99, 45, 99, 243);
        row("positions of ten", game(lines("knots 2;", 10))::positions, 0, 58025, 1, 1023, 59049);
        row("positions of ten in a row of lines that tells nothing", game(lines("knots 3;", 10))::positions, 0,
                0, 59049, 0, 59049);

        promise(21, "-2: more than 10 are OPEN;");
        row("positions, eleven", game(lines("knots 2;", 11))::positions, 0, -2, -2, -2, -2);
        row("positions, fourteen", game(lines("knots 2;", 14))::positions, 0, -2, -2, -2, -2);
        row("positions, ten of eleven OPEN", game(lines("knots 2;", 11) + "gone 10;")::positions, 0,
                58025, 1, 1023, 59049);

        promise(21, "NONE for another what.");
        beyond("positions", game(BRIDGE)::positions, -1, 0, 3);
        beyond("positions, eleven", game(lines("knots 2;", 11))::positions, -1, 0, 3);
    }

    private void cutAnswers() {
        terms("CUT'S ANSWER to an OPEN LINE, where it isn't OVER: were that one JOINED, the least OPEN LINE by which, GONE, "
                + "it would not be KEEN.");
        for (String first : FIRSTS) {
            row("cutAnswer, roads", game(ROADS + first)::cutAnswer, 0, 1, 0, 3, 2);
            row("cutAnswer, one that tells", game("knots 3;ends 0 1;line 1 2;line 0 1;" + first)::cutAnswer, 0, 1, -2);
            row("cutAnswer, tails", game("knots 4;ends 0 2;line 0 1;line 1 2;line 2 3;line 2 3;" + first)::cutAnswer, 0,
                    1, 0, 0, 0);
        }
    }

    private void cutAnswer() {
        promise(33, "CUT'S ANSWER to a LINE;");
        row("cutAnswer", game("knots 3;line 1 2;line 0 1;line 0 1;")::cutAnswer, 0, -2, 0, 0);

        row("cutAnswer, lines of all states", game(STANDING_KEEN)::cutAnswer, 0, -2, 3, -2, -2, -2, 3, -2, -2, -2);

        promise(33, "-2: it isn't OPEN,");
        row("cutAnswer, 0 is GONE", game(ROADS + "gone 0;")::cutAnswer, 0, -2, 2, 3, 2);
        row("cutAnswer, 0 is JOINED", game("knots 4;line 0 1;line 1 2;line 2 3;joined 0;")::cutAnswer, 0, -2, 2, 1);

        promise(33, "it is OVER,");
        row("cutAnswer, CUT HAS it", game(LOST)::cutAnswer, 0, -2, -2, -2);
        row("cutAnswer, JOIN HAS it", game(HAD)::cutAnswer, 0, -2, -2, -2);

        promise(33, "by that LINE JOIN would HAVE it,");
        due("the only line", -2, game("knots 2;line 0 1;").cutAnswer(0));
        row("cutAnswer", game("knots 4;line 0 3;line 0 1;line 1 2;line 2 3;")::cutAnswer, 0, -2, 0, 0, 0);

        promise(33, "there is none;");
        each("cutAnswer, KEEN", game(BRIDGE)::cutAnswer, -2, 0, 1, 2, 3, 4);
        each("cutAnswer, SAFE", game(SAFE)::cutAnswer, -2, 0, 1, 2, 3, 4);

        promise(33, "NONE: no such LINE.");
        beyond("cutAnswer", game(ROADS)::cutAnswer, -1, 0, 3);
        beyond("cutAnswer, OVER", game(LOST)::cutAnswer, -1, 0, 2);
        beyond("cutAnswer, fourteen", game(lines("knots 2;", 14))::cutAnswer, -1, 0, 13);
        beyond("cutAnswer, none", new SwitchGame()::cutAnswer, -1, 0, -1);
    }

    private void areVerifiedForCut(String text, int games) {
        row("verifiedForCut in '" + text + "'", game(text)::verifiedForCut, 0, games, games);
    }

    /** One road of two lines, numbered behind lines that lead nowhere. */
    private static String road(int tails) {
        return "knots 4;ends 0 3;" + "line 1 2;".repeat(tails) + "line 0 1;line 1 3;";
    }

    private void goneThroughForCut() {
        terms("VERIFIED FOR CUT: it isn't KEEN, 10 OPEN LINES at most:");
        areVerifiedForCut(road(8), 1266);
        areVerifiedForCut(road(9), -2);
        areVerifiedForCut(road(12), -2);
        areVerifiedForCut(road(12) + "gone 0;joined 1;gone 2;gone 3;", 1266);
        areVerifiedForCut(BRIDGE, -2);

        terms("JOIN moves first (whoever is to move), takes each OPEN LINE in turn, CUT takes its ANSWER, if it isn't OVER, "
                + "and so on: how many such games (each till it is OVER);");
        for (String first : FIRSTS) {
            // With t lines that lead nowhere t games go on with t - 2 of them, two end at once.
            areVerifiedForCut(road(0) + first, 2);
            areVerifiedForCut(road(1) + first, 3);
            areVerifiedForCut(road(2) + first, 6);
            areVerifiedForCut(road(4) + first, 26);
            areVerifiedForCut(ROADS + first, 8);
            areVerifiedForCut("knots 4;ends 0 3;line 0 1;line 1 3;" + "line 1 2;".repeat(8) + first, 10);
            areVerifiedForCut("knots 2;" + first, 1);
        }

        terms("in how many CUT HAS it.");
        due("all", 1266, game(road(8)).verifiedForCut(1));
        due("it HAS it already", 1, game(LOST).verifiedForCut(1));
    }

    private void verifiedForCut() {
        promise(34, "VERIFIED FOR CUT, what 0 how many games, 1 in how many CUT HAS it;");
        areVerifiedForCut(road(6), 158);
        areVerifiedForCut(STANDING_KEEN + "gone 3;", 6);
        areVerifiedForCut(LOST, 1);

        promise(34, "-2: it is KEEN,");
        for (String text : new String[] {BRIDGE, SAFE, HAD, "knots 2;line 0 1;", "knots 2;line 0 1;joined 0;"}) {
            areVerifiedForCut(text, -2);
        }

        promise(34, "there are more than 10 OPEN;");
        areVerifiedForCut(lines("knots 3;", 10), 1);
        areVerifiedForCut(lines("knots 3;", 11), -2);
        areVerifiedForCut(lines("knots 3;", 14), -2);

        promise(34, "NONE for another what.");
        beyond("verifiedForCut", game(ROADS)::verifiedForCut, -1, 0, 1);
        beyond("verifiedForCut, KEEN", game(BRIDGE)::verifiedForCut, -1, 0, 1);
        beyond("verifiedForCut, eleven", game(lines("knots 3;", 11))::verifiedForCut, -1, 0, 1);
    }

    /*
     * Drawn from seed 0: 0 21468 9988 22117 3498;
     * from seed 1: 16838 5758 10113 17515 31051 5627 23010 7419 16212;
     * from seed 2147483647: 15929 4409 9862 26718 8713 28226 9080 32063 8032 12734.
     */
    private void drawn() {
        terms("CHANCE: games from a seed: a game begins as it is now, who is to move takes the OPEN LINE DRAWN of how many "
                + "there are, by numbers, till it is OVER.");
        SwitchGame cut = game(ONE_TELLS);
        SwitchGame join = game(ONE_TELLS + "first join;");
        due("CUT is to move: 1, 3, then 0", 0, cut.chance(FAR, 1));
        due("JOIN is to move: 1, 3, then 0", 1, join.chance(FAR, 1));
        due("a pass turns it", 1, afterPass(ONE_TELLS).chance(FAR, 1));
        due("of two that are OPEN the second", 1, game("knots 3;ends 0 1;line 1 2;line 0 1;line 1 2;gone 0;").chance(FAR, 1));
        due("of two that are OPEN the first", 0, game("knots 3;ends 0 1;line 1 2;line 0 1;line 1 2;gone 0;").chance(1, 1));
        // Some of these games end with the fourteenth line, which is JOIN's.
        SwitchGame fourteen = game(lines("knots 3;ends 0 2;", 13) + "line 0 2;");
        due("fourteen lines, seed 0", 30, fourteen.chance(0, 50));
        due("fourteen lines, seed 1", 25, fourteen.chance(1, 50));
        due("fourteen lines, the highest seed", 25, fourteen.chance(FAR, 50));
        due("fourteen lines, JOIN first", 20, game(lines("knots 3;ends 0 2;", 13) + "line 0 2;first join;").chance(0, 50));
        due("JOIN HAS it", 50, game(HAD).chance(7, 50));
        due("CUT HAS it", 0, game(LOST).chance(7, 50));

        terms("DRAWN: x becomes x times 1103515245 and 12345, whole, of that what is left by 2147483648;");
        due("seed 0: 0 by four", 0, cut.chance(0, 3));
        due("seed 1: 2, 1, 3, 0", 1, cut.chance(1, 1));
        due("the highest seed", 4, join.chance(FAR, 4));
        due("the highest seed, CUT first", 0, cut.chance(FAR, 4));

        terms("of that by 65536, downwards, what is left by how many;");
        due("22117 by four is 1, 3498 by three is 0", 1, cut.chance(0, 4));

        terms("the first x is the seed, it goes on from game to game.");
        due("two games from seed 1", 1, cut.chance(1, 2));
        due("three games from seed 1", 2, cut.chance(1, 3));
        due("from the seed again", 1, cut.chance(1, 1));
    }

    private static SwitchGame afterPass(String text) {
        SwitchGame game = game(text);
        game.pass();
        return game;
    }

    private void chance() {
        promise(43, "CHANCE by a seed 0 .. 2147483647 of n games (1 .. 50): in how many JOIN HAS it;");
        SwitchGame two = game("knots 2;line 0 1;line 0 1;");
        for (int seed : new int[] {0, 1, FAR - 1, FAR}) {
            due("one game from " + seed, 1, two.chance(seed, 1));
            due("49 games from " + seed, 49, two.chance(seed, 49));
            due("50 games from " + seed, 50, two.chance(seed, 50));
            due("50 games of CUT from " + seed, 0, game("knots 2;line 0 1;").chance(seed, 50));
        }

        SwitchGame standing = game(STANDING_KEEN);
        int[][] won = {{0, 1, 6, 24}, {1, 0, 7, 26}, {12345, 1, 7, 25}, {FAR, 1, 6, 28}};
        for (int[] row : won) {
            due("lines of all states, one game", row[1], standing.chance(row[0], 1));
            due("lines of all states, ten games", row[2], standing.chance(row[0], 10));
            due("lines of all states, fifty games", row[3], standing.chance(row[0], 50));
        }

        promise(43, "NONE: no such ones.");
        for (int n : new int[] {1, 50}) {
            below("chance(seed, " + n + ")", seed -> two.chance(seed, n), -1, 0);
        }
        for (int seed : new int[] {0, FAR}) {
            each("chance(" + seed + ", n)", n -> two.chance(seed, n), -1, 0, -1, LOW, 51, 52, 256, 257, 65537, FAR);
            each("chance(" + seed + ", n), OVER", n -> game(HAD).chance(seed, n), -1, 0, -1, 51);
        }
        due("neither", -1, two.chance(-1, 0));
    }

    private void duels() {
        terms("DUEL: likewise, but there is a PAIR, CUT moves first, DRAWN, JOIN takes the ANSWER.");
        for (String first : FIRSTS) {
            SwitchGame game = game(ALL_OF_FOUR + first);
            // 0 is answered by 1, then 2 by 4, then one of 3 and 5 by the other one.
            due("seed 0", 6, game.duel(0));
            // 2 is answered by 4, then 3 by 1, then 5 by 0.
            due("seed 1", 6, game.duel(1));
            // 5 is answered by 0, between both ends.
            due("the highest seed", 2, game.duel(FAR));
        }
        due("no PAIR", -2, game(ALL_OF_FOUR + "gone 0;").duel(1));
    }

    private void duel() {
        promise(42, "DUEL by a seed 0 .. 2147483647: how many moves till it is OVER;");
        for (int seed : new int[] {0, 1, FAR - 1, FAR}) {
            due("one round from " + seed, 2, game("knots 2;line 0 1;line 0 1;").duel(seed));
            due("two rounds from " + seed, 4, game(TWO_TREES).duel(seed));
            due("seven rounds from " + seed, 14, game(DOUBLE_CHAIN).duel(seed));
        }

        for (int seed : new int[] {0, 1, FAR - 1, FAR}) {
            due("six rounds, one line is JOINED, from " + seed, 12, game(DOUBLE_CHAIN + "joined 13;").duel(seed));
        }
        // Line 0 is drawn; 1 is GONE, so that it is answered by 4, and 0 and 1 are still to be joined.
        due("one line is GONE", 4, game("knots 3;line 0 2;line 0 2;line 0 1;line 0 1;line 1 2;line 1 2;gone 1;").duel(0));

        promise(42, "-2: there is no PAIR;");
        for (String text : new String[] {BRIDGE, ROADS, HAD, LOST, "knots 8;"}) {
            each("duel in '" + text + "'", game(text)::duel, -2, 0, 1, FAR);
        }

        promise(42, "NONE: no such seed.");
        below("duel", game(SAFE)::duel, -1, 0);
        below("duel, no PAIR", game(BRIDGE)::duel, -1, 0);
    }
}
