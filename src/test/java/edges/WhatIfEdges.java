/** Edges of TREES and FORESTS, and of what would be, were a line or the ends other ones. */
final class WhatIfEdges extends Edges {
    /** A ring of seven KNOTS round KNOT 0, to which each has a line. */
    private static final String WHEEL = "knots 8;line 0 1;line 0 2;line 0 3;line 0 4;line 0 5;line 0 6;line 0 7;"
            + "line 1 2;line 2 3;line 3 4;line 4 5;line 5 6;line 6 7;line 7 1;";
    /** Two lines between the ends, and one that leads nowhere. */
    private static final String TAIL = "knots 3;ends 0 1;line 0 1;line 0 1;line 1 2;";
    /** The double chain, but that one line of it lies elsewhere: 6-7 is there once, 0-1 three times. */
    private static final String CHAIN_LESS_ONE = "knots 8;line 0 1;line 1 2;line 2 3;line 3 4;line 4 5;line 5 6;line 6 7;"
            + "line 0 1;line 1 2;line 2 3;line 3 4;line 4 5;line 5 6;line 0 1;";

    WhatIfEdges(Checks checks, Sentences sentences) {
        super(checks, sentences);
    }

    @Override
    void run() {
        trees();
        treesWith();
        forests();
        idle();
        ifLine();
        ifMore();
        ifEnds();
        lacks();
    }

    private void trees() {
        terms("TREES: sets of OPEN LINES that are a tree of all PLACES there are.");
        due("one PLACE: no line is a tree", 1, game("knots 2;line 0 1;joined 0;").trees());
        due("one PLACE, lines within it", 1, game(HAD).trees());
        due("a KNOT apart", 0, game("knots 3;ends 0 1;line 0 1;").trees());
        due("ends apart", 0, game(LOST).trees());
        due("two lines for three PLACES", 1, game("knots 3;line 0 1;line 1 2;").trees());
        due("JOINED ones make fewer PLACES", 2, game("knots 3;line 0 1;line 1 2;line 1 2;joined 0;").trees());
        due("GONE ones are none", 1, game("knots 3;line 0 1;line 0 1;line 1 2;gone 0;").trees());
        due("KNOT 0 in a PLACE of its own", 3, game("knots 3;line 1 2;line 0 2;line 0 1;").trees());

        promise(26, "How many TREES there are.");
        due("new", 0, new SwitchGame().trees());
        due("one line", 1, game("knots 2;line 0 1;").trees());
        due("fourteen lines", 14, game(lines("knots 2;", 14)).trees());
        due("eight KNOTS, each line twice", 128, game(DOUBLE_CHAIN).trees());
        due("all of four", 16, game(ALL_OF_FOUR).trees());
        due("a wheel", 841, game(WHEEL).trees());
        due("lines of all states", 3, game(STANDING_KEEN).trees());
    }

    private void treesWith() {
        promise(27, "How many TREES have a LINE;");
        row("treesWith", game(BRIDGE)::treesWith, 0, 5, 5, 4, 5, 5);
        row("treesWith, a line that all need", game(TAIL)::treesWith, 0, 1, 1, 2);
        row("treesWith, within a PLACE", game(HAD)::treesWith, 1, 0, 0);
        row("treesWith, no TREES", game(LOST)::treesWith, 0, 0, 0);
        row("treesWith, lines of all states", game(STANDING_KEEN)::treesWith, 0, -2, 0, -2, 2, -2, 3, -2, 2, 2);
        SwitchGame wheel = game(WHEEL);
        // A tree has seven lines, so that one of the ring and one to KNOT 0 are together in 841.
        due("both kinds of lines of a wheel", 841, wheel.treesWith(0) + wheel.treesWith(13));
        due("the last line", 64, game(DOUBLE_CHAIN).treesWith(13));

        promise(27, "-2: it isn't OPEN;");
        due("JOINED", -2, game(HAD).treesWith(0));
        due("GONE", -2, game(LOST).treesWith(2));
        row("treesWith, one GONE", game(BRIDGE + "gone 2;")::treesWith, 0, 3, 3, -2, 3, 3);

        promise(27, "NONE: no such LINE.");
        beyond("treesWith", game(BRIDGE)::treesWith, -1, 0, 4);
        beyond("treesWith of fourteen", wheel::treesWith, -1, 0, 13);
        beyond("treesWith of none", new SwitchGame()::treesWith, -1, 0, -1);
    }

    private void areForests(String text, int first, int second) {
        row("forests in '" + text + "'", game(text)::forests, 0,
                Integer.bitCount(first) + Integer.bitCount(second), first, second);
    }

    private void forests() {
        terms("FORESTS: two sets of OPEN LINES that share none, each without a ring of PLACES: the most LINES of both together;");
        areForests("knots 2;", 0, 0);
        areForests("knots 2;line 0 1;", 0, 1);
        areForests("knots 2;line 0 1;line 0 1;", 1, 2);
        areForests("knots 3;line 0 1;line 1 2;line 2 0;", 1, 6);
        areForests(HAD, 0, 0);
        areForests(LOST, 1, 2);
        areForests("knots 3;ends 0 1;line 0 1;line 1 2;line 1 2;joined 0;", 2, 4);
        areForests("knots 3;line 0 1;line 1 2;line 0 2;joined 0;", 2, 4);
        areForests(DOUBLE_CHAIN, 127, 16256);

        terms("of several the first one least as bits, then the second.");
        areForests(lines("knots 2;", 14), 1, 2);
        areForests(lines("knots 2;", 14) + "gone 0;gone 2;", 2, 8);
        areForests("knots 3;line 0 1;line 1 2;", 0, 3);
        areForests("knots 3;line 1 2;line 0 1;line 0 1;", 2, 5);
        areForests("knots 3;line 0 1;line 1 2;line 0 1;line 0 1;line 1 2;line 1 2;", 3, 20);
        areForests(ALL_OF_FOUR, 13, 50);

        promise(41, "FORESTS, what 0 how many LINES both have, 1 the first, 2 the second, as bits.");
        row("forests, new", new SwitchGame()::forests, 0, 0, 0, 0);
        row("forests", game(BRIDGE)::forests, 0, 5, 5, 26);
        row("forests, lines of all states", game(STANDING_KEEN)::forests, 0, 4, 8, 416);
        row("forests of fourteen", game(DOUBLE_CHAIN)::forests, 0, 14, 127, 16256);

        promise(41, "NONE for another what.");
        beyond("forests", game(BRIDGE)::forests, -1, 0, 2);
        beyond("forests, new", new SwitchGame()::forests, -1, 0, 2);
    }

    private void idle() {
        terms("IDLE: an OPEN LINE by which OUTCOME would be as it is, were it JOINED, and were it GONE.");
        due("neither changes it", 1, game(TAIL).idle(2));
        due("GONE changes it", 0, game(TAIL).idle(0));
        due("JOINED changes it", 0, game(ROADS).idle(0));
        due("both change it", 0, game(BRIDGE).idle(2));
        due("one of three", 1, game("knots 2;line 0 1;line 0 1;line 0 1;").idle(0));

        promise(28, "Whether a LINE is IDLE (1, 0);");
        row("idle", game(TAIL)::idle, 0, 0, 0, 1);
        row("idle where each is spare", game(SAFE)::idle, 0, 1, 1, 1, 1, 1);
        row("idle, lines of all states", game(STANDING_KEEN)::idle, 0, -2, 1, -2, 0, -2, 1, -2, 0, 0);
        row("idle, JOIN HAS it", game(HAD)::idle, 1, 1, 1);
        row("idle, CUT HAS it", game(LOST)::idle, 0, 1, 1);
        due("the last of fourteen", 1, game(lines("knots 2;", 14)).idle(13));
        due("the only one", 0, game("knots 2;line 0 1;").idle(0));

        promise(28, "-2: it isn't OPEN;");
        due("JOINED", -2, game(HAD).idle(0));
        due("GONE", -2, game(LOST).idle(2));

        promise(28, "NONE: no such LINE.");
        beyond("idle", game(TAIL)::idle, -1, 0, 2);
        beyond("idle of fourteen", game(WHEEL)::idle, -1, 0, 13);
        beyond("idle of none", new SwitchGame()::idle, -1, 0, -1);
    }

    private void ifLine() {
        promise(29, "OUTCOME, were an OPEN LINE JOINED (how 0), GONE (1);");
        SwitchGame tail = game(TAIL);
        row("ifLine(i, 0)", i -> tail.ifLine(i, 0), 0, 0, 0, 0);
        row("ifLine(i, 1)", i -> tail.ifLine(i, 1), 0, 2, 2, 0);
        SwitchGame roads = game(ROADS);
        row("ifLine(i, 0), roads", i -> roads.ifLine(i, 0), 0, 2, 2, 2, 2);
        row("ifLine(i, 1), roads", i -> roads.ifLine(i, 1), 0, 1, 1, 1, 1);
        SwitchGame standing = game(STANDING_KEEN);
        row("ifLine(i, 0), lines of all states", i -> standing.ifLine(i, 0), 0, -2, 2, -2, 0, -2, 2, -2, 0, 0);
        row("ifLine(i, 1), lines of all states", i -> standing.ifLine(i, 1), 0, -2, 2, -2, 1, -2, 2, -2, 2, 2);
        due("the only one JOINED", 0, game("knots 2;line 0 1;").ifLine(0, 0));
        due("the only one GONE", 1, game("knots 2;line 0 1;").ifLine(0, 1));
        due("the last of fourteen JOINED", 0, game(CHAIN_LESS_ONE).ifLine(6, 0));
        due("the last of fourteen GONE", 2, game(CHAIN_LESS_ONE).ifLine(13, 1));
        due("JOIN HAS it", 0, game(HAD).ifLine(1, 1));
        due("CUT HAS it", 1, game(LOST).ifLine(1, 0));

        promise(29, "-2: it isn't OPEN;");
        for (int how = 0; how < 2; how++) {
            due("JOINED, how " + how, -2, game(HAD).ifLine(0, how));
            due("GONE, how " + how, -2, game(LOST).ifLine(2, how));
        }

        promise(29, "NONE: no such ones.");
        for (int how = 0; how < 2; how++) {
            int asked = how;
            beyond("ifLine(i, " + how + ")", i -> tail.ifLine(i, asked), -1, 0, 2);
        }
        for (int i = 0; i < 3; i++) {
            int asked = i;
            beyond("ifLine(" + i + ", how)", how -> tail.ifLine(asked, how), -1, 0, 1);
            beyond("ifLine(" + i + ", how), 0 isn't OPEN", how -> game(HAD).ifLine(asked, how), -1, 0, 1);
        }
        due("neither", -1, tail.ifLine(3, 2));
    }

    private void ifMore() {
        promise(30, "OUTCOME, were one LINE more (a 15th, too), OPEN, between two KNOTS;");
        due("of none", 2, new SwitchGame().ifMore(0, 1));
        due("of none, turned", 2, new SwitchGame().ifMore(1, 0));
        SwitchGame fourteen = game(CHAIN_LESS_ONE);
        due("fourteen", 2, fourteen.outcome());
        due("a 15th that lacks", 0, fourteen.ifMore(6, 7));
        due("a 15th, turned", 0, fourteen.ifMore(7, 6));
        due("a 15th between the ends", 0, fourteen.ifMore(0, 7));
        due("a 15th elsewhere", 2, fourteen.ifMore(1, 2));
        due("still fourteen", 14, fourteen.count(1));
        due("as it was", 2, fourteen.outcome());
        SwitchGame chain = game(DOUBLE_CHAIN + "gone 13;");
        due("for one that is GONE", 0, chain.ifMore(6, 7));
        SwitchGame tells = game(lines("knots 3;ends 0 2;", 14));
        due("the one that tells", 2, tells.ifMore(1, 2));
        due("between the ends", 2, tells.ifMore(0, 2));
        due("no help", 1, tells.ifMore(0, 1));
        SwitchGame place = game("knots 3;line 0 1;line 1 2;joined 0;");
        due("within a PLACE", 2, place.ifMore(0, 1));
        due("from another KNOT of the PLACE", 0, place.ifMore(0, 2));
        SwitchGame standing = game(STANDING_KEEN);
        row("ifMore(4, b), lines of all states", b -> standing.ifMore(4, b), 0, 0, 0, 0, 2, -1);
        row("ifMore(0, b), lines of all states", b -> standing.ifMore(0, b), 0, -1, 2, 0, 2, 0);
        due("JOIN HAS it", 0, game(HAD).ifMore(0, 1));
        due("CUT HAS it", 2, game(LOST).ifMore(1, 2));

        promise(30, "NONE: no such ones, one and the same.");
        for (int k = 0; k < 8; k++) {
            int asked = k;
            beyond("ifMore(" + k + ", b)", b -> fourteen.ifMore(asked, b), -1, 0, 7);
            beyond("ifMore(a, " + k + ")", a -> fourteen.ifMore(a, asked), -1, 0, 7);
            due("ifMore(" + k + ", " + k + ")", -1, fourteen.ifMore(k, k));
        }
        beyond("ifMore(0, b) of two", b -> new SwitchGame().ifMore(0, b), -1, 0, 1);
        due("neither", -1, fourteen.ifMore(8, 8));
        due("one and the same, JOIN HAS it", -1, game(HAD).ifMore(1, 1));
    }

    private void ifEnds() {
        promise(31, "OUTCOME, were two other KNOTS the ends;");
        SwitchGame bridge = game(BRIDGE);
        due("the ends", 2, bridge.ifEnds(0, 3));
        due("turned", 2, bridge.ifEnds(3, 0));
        SwitchGame tail = game(TAIL);
        due("two lines", 0, tail.ifEnds(1, 0));
        due("one line", 2, tail.ifEnds(2, 1));
        due("over the one line", 2, tail.ifEnds(0, 2));
        SwitchGame apart = game("knots 8;line 0 1;line 1 2;joined 0;");
        due("one PLACE", 0, apart.ifEnds(1, 0));
        due("one line from a PLACE", 2, apart.ifEnds(0, 2));
        due("KNOTS apart", 1, apart.ifEnds(6, 7));
        SwitchGame standing = game(STANDING_KEEN);
        row("ifEnds(3, b), lines of all states", b -> standing.ifEnds(3, b), 0, 1, 1, 2, -1, 1);
        row("ifEnds(0, b), lines of all states", b -> standing.ifEnds(0, b), 0, -1, 0, 2, 1, 2);
        due("JOIN HAS it, other ends", 1, game("knots 3;ends 0 1;line 0 1;joined 0;").ifEnds(1, 2));
        due("CUT HAS it, other ends", 0, game(LOST).ifEnds(0, 1));
        due("ends stay", 3, bridge.count(3));
        due("outcome stays", 1, apart.outcome());

        promise(31, "NONE: no such ones, one and the same.");
        for (int k = 0; k < 4; k++) {
            int asked = k;
            beyond("ifEnds(" + k + ", b)", b -> bridge.ifEnds(asked, b), -1, 0, 3);
            beyond("ifEnds(a, " + k + ")", a -> bridge.ifEnds(a, asked), -1, 0, 3);
            due("ifEnds(" + k + ", " + k + ")", -1, bridge.ifEnds(k, k));
        }
        beyond("ifEnds(7, b) of eight", b -> apart.ifEnds(7, b), -1, 0, 7);
        due("neither", -1, bridge.ifEnds(4, 4));
        due("one and the same, JOIN HAS it", -1, game(HAD).ifEnds(1, 1));
    }

    private void lacks() {
        promise(32, "How many LINES more between both ends, OPEN, are needed at least, so that it is SAFE (0 .. 2).");
        due("JOIN HAS it", 0, game(HAD).lacks());
        due("a PAIR", 0, game(DOUBLE_CHAIN).lacks());
        due("more lines than needed", 0, game(lines("knots 2;", 14)).lacks());
        due("KEEN", 1, game(BRIDGE).lacks());
        due("one line", 1, game("knots 2;line 0 1;").lacks());
        due("fourteen lines, one lacks", 1, game(CHAIN_LESS_ONE).lacks());
        due("lines of all states", 1, game(STANDING_KEEN).lacks());
        due("lines of all states, a PAIR", 0, game(STANDING).lacks());
        due("not KEEN", 2, game(ROADS).lacks());
        due("CUT HAS it", 2, game(LOST).lacks());
        due("new", 2, new SwitchGame().lacks());
        due("fourteen lines that tell nothing", 2, game(lines("knots 3;", 14)).lacks());
    }
}
