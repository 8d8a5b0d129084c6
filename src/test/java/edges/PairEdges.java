/** Edges of the PAIR: SETS, who wins, ANSWER and EXCHANGE. */
final class PairEdges extends Edges {
    /** Trees 0-3, 2-3, 1-2 and 0-1, 2-3, 1-3. */
    private static final String TWISTED = "knots 4;line 0 3;line 2 3;line 1 2;line 0 1;line 2 3;line 1 3;";
    /** Line 0 leads nowhere; lines 1 and 2 lie between the ends. */
    private static final String TAIL_FIRST = "knots 3;ends 0 1;line 1 2;line 0 1;line 0 1;";

    PairEdges(Checks checks, Sentences sentences) {
        super(checks, sentences);
    }

    @Override
    void run() {
        whatAPairIs();
        whichPair();
        whoWins();
        linesThatWin();
        answers();
        exchanges();
        pair();
        outcome();
        wins();
        answer();
        exchange();
        set();
    }

    private void noPair(String text) {
        SwitchGame game = game(text);
        row("pair in '" + text + "'", game::pair, -1, -1, -2, -2, -2, -2, -1);
        due("set in '" + text + "'", -2, game.set(0));
    }

    private void isPair(String text, int set, int a, int b) {
        row("pair in '" + text + "'", game(text)::pair, 0, set, a, b, Integer.bitCount(set));
    }

    private void whatAPairIs() {
        terms("A PAIR (none, where JOIN HAS it):");
        noPair(HAD);
        noPair("knots 3;line 0 1;line 0 1;line 1 2;line 1 2;line 0 2;joined 4;");

        terms("two sets of OPEN LINES, A and B, that share none,");
        noPair("knots 2;line 0 1;");
        isPair("knots 2;line 0 1;line 0 1;", 3, 1, 2);
        noPair("knots 2;line 0 1;line 0 1;gone 1;");
        isPair("knots 2;line 0 1;line 0 1;line 0 1;gone 1;", 3, 1, 4);

        terms("each a tree of all PLACES of a SET (as many LINES as PLACES, less one; all hang together by them),");
        noPair("knots 3;line 0 1;line 0 1;line 1 2;");
        noPair("knots 3;line 0 1;line 0 1;line 0 1;line 1 2;");
        isPair("knots 3;line 0 1;line 0 1;line 1 2;line 1 2;", 7, 5, 10);
        isPair(DOUBLE_CHAIN, 255, 127, 16256);
        noPair(DOUBLE_CHAIN + "gone 13;");
        isPair(DOUBLE_CHAIN + "joined 13;", 127, 63, 8064);
        noPair(BRIDGE);

        terms("both ends' PLACES being of the SET.");
        noPair("knots 3;line 0 1;line 0 1;");
        noPair("knots 4;line 1 2;line 1 2;line 0 1;line 2 3;");
        isPair("knots 4;ends 1 2;line 1 2;line 1 2;line 0 1;line 2 3;", 6, 1, 2);
        isPair("knots 2;ends 1 0;line 0 1;line 1 0;", 3, 1, 2);
    }

    private void whichPair() {
        terms("Of several: the SET of the fewest PLACES,");
        // Four PLACES 0 2 3 1 with bits 15, three PLACES 0 6 1 with bits 67.
        isPair("knots 7;ends 0 1;line 0 2;line 0 2;line 2 3;line 2 3;line 3 1;line 3 1;"
                + "line 0 6;line 0 6;line 6 1;line 6 1;", 67, 320, 640);

        terms("then the least one as bits (of their numbers),");
        isPair("knots 4;ends 0 1;line 0 3;line 0 3;line 3 1;line 3 1;line 0 2;line 0 2;line 2 1;line 2 1;", 7, 80, 160);
        // KNOTS 1 and 3 are PLACE 1, so that this SET is 1 and 2 and not 2 and 3.
        isPair("knots 4;ends 2 3;line 1 3;line 2 3;line 2 1;joined 0;", 6, 2, 4);

        terms("then A the least as bits (of LINES),");
        isPair("knots 2;line 0 1;line 0 1;line 0 1;line 0 1;", 3, 1, 2);
        isPair("knots 3;line 0 1;line 1 2;line 0 1;line 1 2;line 0 2;", 7, 3, 12);
        // Lines 0 and 1 are the least tree, but two lines 0-1 alone would be left.
        isPair("knots 3;line 1 2;line 0 2;line 0 1;line 0 1;", 7, 5, 10);
        isPair(ALL_OF_FOUR, 15, 13, 50);

        terms("then B.");
        isPair("knots 2;line 0 1;line 0 1;line 0 1;line 0 1;gone 1;", 3, 1, 4);
        isPair("knots 3;line 0 1;line 1 2;line 0 1;line 0 1;line 1 2;line 1 2;", 7, 3, 20);
    }

    private void whoWins() {
        terms("SAFE: JOIN HAS it, or there is a PAIR.");
        due("JOIN HAS it", 0, game(HAD).outcome());
        due("JOIN HAS it, none is OPEN", 0, game("knots 2;line 0 1;joined 0;").outcome());
        due("a PAIR", 0, game(SAFE).outcome());
        due("a PAIR of eight", 0, game(DOUBLE_CHAIN).outcome());
        due("a PAIR less one line", 2, game(DOUBLE_CHAIN + "gone 6;").outcome());

        terms("KEEN: JOIN HAS it, or by some OPEN LINE, were it JOINED, it would be SAFE.");
        due("by the only one", 2, game("knots 2;line 0 1;").outcome());
        due("by one that is GONE: not", 1, game("knots 2;line 0 1;gone 0;").outcome());
        due("by the last one alone", 2, game("knots 3;ends 0 1;line 1 2;line 1 2;line 0 1;").outcome());
        due("by no line", 1, game(ROADS).outcome());
        due("two lines less", 1, game(DOUBLE_CHAIN + "gone 0;gone 13;").outcome());

        terms("OUTCOME: 0 SAFE (JOIN wins, whoever moves), 1 not KEEN (CUT wins), 2 KEEN alone (who is to move wins).");
        for (String first : new String[] {"first join;", "first cut;"}) {
            due("SAFE, " + first, 0, game(SAFE + first).outcome());
            due("not KEEN, " + first, 1, game(ROADS + first).outcome());
            due("KEEN alone, " + first, 2, game(BRIDGE + first).outcome());
            due("no lines, " + first, 1, game("knots 8;" + first).outcome());
        }
    }

    private void winning(String text, int[] forJoin, int[] forCut) {
        SwitchGame game = game(text);
        for (int k = 0; k < forJoin.length; k++) {
            due("wins(0, " + k + ") in '" + text + "'", forJoin[k], game.wins(0, k));
        }
        due("no more for JOIN in '" + text + "'", -2, game.wins(0, forJoin.length));
        for (int k = 0; k < forCut.length; k++) {
            due("wins(1, " + k + ") in '" + text + "'", forCut[k], game.wins(1, k));
        }
        due("no more for CUT in '" + text + "'", -2, game.wins(1, forCut.length));
    }

    private void linesThatWin() {
        int[] none = {};
        terms("A LINE WINS for JOIN: it is OPEN, and it would be SAFE, were it JOINED;");
        winning(SAFE, new int[] {0, 1, 2, 3, 4}, none);
        winning(TWO_TREES + "gone 0;", new int[] {1}, new int[] {1, 2, 3});
        winning("knots 3;line 0 1;line 0 1;line 1 2;", new int[] {2}, new int[] {0, 1, 2});
        winning("knots 3;line 0 1;line 0 1;line 1 2;joined 0;", new int[] {2}, new int[] {2});

        terms("for CUT: OPEN, and it would not be KEEN, were it GONE");
        winning(ROADS, none, new int[] {0, 1, 2, 3});
        winning(ROADS + "gone 2;", none, new int[] {0, 1, 3});
        winning("knots 3;ends 0 1;line 1 2;line 0 1;line 1 2;", new int[] {1}, new int[] {1});

        terms("(nothing WINS, if it is OVER).");
        winning(HAD, none, none);
        winning(LOST, none, none);
        winning("knots 8;", none, none);
    }

    private void answers() {
        terms("ANSWER to an OPEN LINE, where there is a PAIR: of A: the least LINE of B by which both parts of A without it "
                + "hang together;");
        // A: 0-1, 0-3, 1-2; B: 0-2, 1-3, 2-3.
        SwitchGame four = game(ALL_OF_FOUR);
        due("0-1", 1, four.answer(0));
        due("0-3", 4, four.answer(2));
        due("1-2", 1, four.answer(3));
        SwitchGame chain = game(DOUBLE_CHAIN);
        row("answer in the chain, of A", chain::answer, 0, 7, 8, 9, 10, 11, 12, 13);

        terms("of B likewise by A;");
        due("0-2", 0, four.answer(1));
        due("1-3", 0, four.answer(4));
        due("2-3", 0, four.answer(5));
        row("answer in the chain, of B", chain::answer, 7, 0, 1, 2, 3, 4, 5, 6);

        terms("of neither: the least LINE of A and B together.");
        due("a third line between the ends", 0, game("knots 2;line 0 1;line 0 1;line 0 1;").answer(2));
        due("one that leads nowhere", 1, game(TAIL_FIRST).answer(0));
        due("line 0 is GONE", 1, game("knots 2;line 0 1;line 0 1;line 0 1;line 0 1;gone 0;").answer(3));
        due("A has it", 0, game(SAFE).answer(4));
        due("one within a PLACE", 2, game("knots 3;line 0 1;line 0 1;line 1 2;line 1 2;joined 0;").answer(1));
    }

    private void exchanges() {
        terms("EXCHANGE of a LINE of A: the least LINE of B so that both, each in the other's place, make trees of the SET again;");
        SwitchGame four = game(ALL_OF_FOUR);
        due("0-1", 1, four.exchange(0));
        due("0-3: not 4, by which B would have a ring", 5, four.exchange(2));
        due("1-2", 5, four.exchange(3));
        SwitchGame chain = game(DOUBLE_CHAIN);
        row("exchange in the chain, of A", chain::exchange, 0, 7, 8, 9, 10, 11, 12, 13);

        terms("of one of B likewise.");
        due("0-2", 0, four.exchange(1));
        row("1-3, 2-3", four::exchange, 4, 0, 0);
        SwitchGame twisted = game(TWISTED);
        row("exchange, of A", twisted::exchange, 0, 3, 4, 5);
        row("exchange, of B: not 0 for 1-3, by which A would have a ring", twisted::exchange, 3, 0, 1, 2);
        row("though it is the answer", twisted::answer, 3, 0, 1, 0);
        row("exchange in the chain, of B", chain::exchange, 7, 0, 1, 2, 3, 4, 5, 6);
    }

    private void pair() {
        promise(13, "Of the PAIR, what 0 the SET, 1 A, 2 B, all as bits, 3 how many PLACES;");
        row("pair of two", game("knots 2;line 0 1;line 0 1;")::pair, 0, 3, 1, 2, 2);
        row("pair, lines of all states", game(STANDING)::pair, 0, 17, 8, 16, 2);
        row("pair of eight", game(DOUBLE_CHAIN)::pair, 0, 255, 127, 16256, 8);
        row("pair of the last lines", game("knots 8;ends 6 7;" + "line 0 1;".repeat(12) + "line 6 7;line 7 6;")::pair, 0,
                192, 4096, 8192, 2);

        promise(13, "-2: there is none;");
        for (String text : new String[] {BRIDGE, ROADS, HAD, LOST, "knots 8;"}) {
            row("pair in '" + text + "'", game(text)::pair, 0, -2, -2, -2, -2);
        }
        row("pair in a new object", new SwitchGame()::pair, 0, -2, -2, -2, -2);
        SwitchGame game = game("knots 2;line 0 1;line 0 1;");
        game.move(0);
        row("pair, one of two GONE", game::pair, 0, -2, -2, -2, -2);
        game.undo();
        row("pair, undone", game::pair, 0, 3, 1, 2, 2);

        promise(13, "NONE for another what.");
        beyond("pair", game::pair, -1, 0, 3);
        beyond("pair, none", game(BRIDGE)::pair, -1, 0, 3);
    }

    private void outcome() {
        promise(14, "OUTCOME.");
        SwitchGame game = game(TWO_TREES);
        due("SAFE", 0, game.outcome());
        game.move(0);
        due("KEEN alone", 2, game.outcome());
        game.pass();
        due("a pass changes nothing in it", 2, game.outcome());
        game.move(1);
        due("not KEEN", 1, game.outcome());
        due("a new object", 1, new SwitchGame().outcome());
        due("lines of all states, a PAIR", 0, game(STANDING).outcome());
        due("lines of all states, KEEN", 2, game(STANDING_KEEN).outcome());
        due("lines of all states, not KEEN", 1, game(STANDING_KEEN + "gone 3;").outcome());
    }

    private void wins() {
        promise(15, "The k-th LINE (k from 0 on, by numbers) that WINS for JOIN (who 0), CUT (1), whoever is to move;");
        for (String first : new String[] {"first join;", "first cut;"}) {
            winning("knots 3;ends 0 1;line 1 2;line 0 1;" + first, new int[] {1}, new int[] {1});
            winning(BRIDGE + first, new int[] {0, 1, 2, 3, 4}, new int[] {0, 1, 2, 3, 4});
        }
        winning(STANDING_KEEN, new int[] {3, 7, 8}, new int[] {3});
        winning(lines("knots 2;", 14), new int[] {0, 1, 2, 3, 4, 5, 6, 7, 8, 9, 10, 11, 12, 13}, new int[] {});

        promise(15, "-2: there are not so many;");
        SwitchGame bridge = game(BRIDGE);
        above("wins(0, k)", k -> bridge.wins(0, k), -2, 4);
        above("wins(1, k)", k -> bridge.wins(1, k), -2, 4);
        SwitchGame full = game(lines("knots 2;", 14));
        above("wins(0, k) of fourteen", k -> full.wins(0, k), -2, 13);
        above("wins(1, k) of fourteen", k -> full.wins(1, k), -2, -1);

        promise(15, "NONE: no such ones.");
        for (int k : new int[] {0, 4, 5, FAR}) {
            beyond("wins(who, " + k + ")", who -> bridge.wins(who, k), -1, 0, 1);
        }
        below("wins(0, k)", k -> bridge.wins(0, k), -1, 0);
        below("wins(1, k)", k -> bridge.wins(1, k), -1, 0);
        due("neither", -1, bridge.wins(2, -1));
    }

    private void answer() {
        promise(16, "ANSWER to a LINE;");
        row("answer in a small one", game(TAIL_FIRST)::answer, 0, 1, 2, 1);
        row("answer, lines of all states", game(STANDING)::answer, 0, -2, 3, -2, 4, 3, 3, -2, 3, 3);
        row("answer, JOIN is to move", game(SAFE + "first join;")::answer, 0, 1, 0, 3, 2, 0);

        promise(16, "-2: it isn't OPEN;");
        SwitchGame game = game("knots 2;line 0 1;line 0 1;line 0 1;gone 1;");
        row("answer", game::answer, 0, 2, -2, 0);
        due("JOINED", -2, game("knots 3;line 0 1;line 1 2;line 1 2;joined 0;").answer(0));
        due("GONE, no PAIR", -2, game(LOST).answer(2));
        due("JOINED, no PAIR", -2, game(HAD).answer(0));

        promise(16, "-3: there is no PAIR;");
        each("answer", game(BRIDGE)::answer, -3, 0, 1, 2, 3, 4);
        each("answer, JOIN HAS it", game(HAD)::answer, -3, 1, 2);
        each("answer, CUT HAS it", game(LOST)::answer, -3, 0, 1);

        promise(16, "NONE: no such LINE.");
        beyond("answer", game::answer, -1, 0, 2);
        beyond("answer, no PAIR", game(BRIDGE)::answer, -1, 0, 4);
        beyond("answer, fourteen", game(DOUBLE_CHAIN)::answer, -1, 0, 13);
        beyond("answer, no lines", new SwitchGame()::answer, -1, 0, -1);
    }

    private void exchange() {
        promise(17, "EXCHANGE of a LINE;");
        row("exchange", game(SAFE)::exchange, 0, 1, 0, 3, 2);
        row("exchange, lines of all states", game(STANDING)::exchange, 0, -2, -2, -2, 4, 3, -2, -2, -2, -2);
        row("exchange, JOIN is to move", game(SAFE + "first join;")::exchange, 0, 1, 0, 3, 2);

        promise(17, "-3: there is no PAIR (ahead of -2);");
        each("exchange", game(BRIDGE)::exchange, -3, 0, 1, 2, 3, 4);
        each("exchange, JOIN HAS it, 0 is JOINED", game(HAD)::exchange, -3, 0, 1, 2);
        each("exchange, CUT HAS it, 2 is GONE", game(LOST)::exchange, -3, 0, 1, 2);

        promise(17, "-2: it is of neither tree;");
        due("OPEN", -2, game(SAFE).exchange(4));
        due("OPEN, leads nowhere", -2, game(TAIL_FIRST).exchange(0));
        row("exchange, 1 is GONE", game("knots 2;line 0 1;line 0 1;line 0 1;gone 1;")::exchange, 0, 2, -2, 0);
        row("exchange, 0 is JOINED", game("knots 3;line 0 1;line 1 2;line 1 2;joined 0;")::exchange, 0, -2, 2, 1);

        promise(17, "NONE: no such LINE.");
        beyond("exchange", game(SAFE)::exchange, -1, 0, 4);
        beyond("exchange, no PAIR", game(BRIDGE)::exchange, -1, 0, 4);
        beyond("exchange, fourteen", game(DOUBLE_CHAIN)::exchange, -1, 0, 13);
        beyond("exchange, no lines", new SwitchGame()::exchange, -1, 0, -1);
    }

    private void set() {
        promise(38, "The k-th SET that has a PAIR (k from 0 on;");
        // Two lines between the ends 0 and 1, two from 1 to 3, two from 0 to 2: 2 and 3 may be in a SET or not.
        SwitchGame game = game("knots 4;ends 0 1;line 0 1;line 0 1;line 1 3;line 1 3;line 0 2;line 0 2;");
        due("the first one", 3, game.set(0));
        due("the first one is that of the PAIR", game.pair(0), game.set(0));
        due("of eight PLACES", 255, game(DOUBLE_CHAIN).set(0));

        promise(38, "by how many PLACES, of like ones the least as bits first), as bits;");
        row("set", game::set, 0, 3, 7, 11, 15);
        SwitchGame far = game("knots 7;ends 0 1;line 0 2;line 0 2;line 2 3;line 2 3;line 3 1;line 3 1;"
                + "line 0 6;line 0 6;line 6 1;line 6 1;");
        row("three PLACES, four, five", far::set, 0, 67, 15, 71, 75, 79, -2);
        row("set, lines of all states", game(STANDING)::set, 0, 17, 21, -2);
        row("by the numbers of PLACES", game("knots 4;ends 2 3;line 1 3;line 2 3;line 2 1;joined 0;")::set, 0, 6, -2);

        promise(38, "-2: there are not so many;");
        above("set", game::set, -2, 3);
        above("set, no PAIR", game(BRIDGE)::set, -2, -1);
        above("set, JOIN HAS it", game(HAD)::set, -2, -1);
        above("set, CUT HAS it", game(LOST)::set, -2, -1);
        above("set, new", new SwitchGame()::set, -2, -1);

        promise(38, "NONE: k below 0.");
        below("set", game::set, -1, 0);
        below("set, no PAIR", game(BRIDGE)::set, -1, 0);
    }
}
