/** Edges of a TEXT: what may stand in it, and its FAULTS. */
final class TextEdges extends Edges {
    private static final String[] OTHERS = {"ends 0 1;", "line 0 1;", "joined 0;", "gone 0;", "first join;", "first cut;"};

    TextEdges(Checks checks, Sentences sentences) {
        super(checks, sentences);
    }

    @Override
    void run() {
        grammar();
        numbers();
        blanks();
        knots();
        ends();
        lines();
        standing();
        first();
        faultsOfOrder();
        faultsThatCantStand();
        faultsOfTooMuch();
        faultsOfToldAlready();
        noKnots();
    }

    private void good(String text, int told) {
        SwitchGame game = new SwitchGame();
        due("text '" + text + "'", told, Tape.read(game, text));
        due("fault of '" + text + "'", 0, game.fault(0));
        due("place in '" + text + "'", -1, game.fault(1));
    }

    /** A text with a FAULT at the first sign ^, which itself is no part of it. */
    private void fault(int number, String marked) {
        SwitchGame game = new SwitchGame();
        due("text '" + marked + "'", -1, Tape.read(game, marked.replaceFirst("\\^", "")));
        due("fault of '" + marked + "'", number, game.fault(0));
        due("place in '" + marked + "'", marked.indexOf('^'), game.fault(1));
    }

    private void grammar() {
        terms("A TEXT: { LINE ';' }.");
        good("", 0);
        good("knots 2;", 1);
        good("knots 2;line 0 1;", 2);
        fault(1, "knots 2^");
        fault(1, "knots 2;line 0 1^");
        fault(1, "^;");
        fault(1, "knots 2;^;");
        fault(1, "knots 2;line 0 1;^;");
        fault(1, "knots 2 ^line 0 1;");
        fault(1, "knots 2^,");

        terms("LINE: knots N | ends N N | line N N | joined N | gone N | first join | first cut.");
        good("knots 3;ends 0 1;line 0 1;line 1 2;joined 0;gone 1;first join;", 7);
        good("knots 3;first cut;line 0 1;line 1 2;gone 0;joined 1;ends 0 1;", 7);
        fault(1, "knots^;");
        fault(1, "knots 3 ^3;");
        fault(1, "knots 3;ends^;");
        fault(1, "knots 3;ends 0^;");
        fault(1, "knots 3;ends 0 1 ^2;");
        fault(1, "knots 3;line^;");
        fault(1, "knots 3;line 0^;");
        fault(1, "knots 3;line 0 1 ^2;");
        fault(1, "knots 3;line 0 1;joined^;");
        fault(1, "knots 3;line 0 1;line 0 1;joined 0 ^1;");
        fault(1, "knots 3;line 0 1;gone^;");
        fault(1, "knots 3;line 0 1;line 0 1;gone 0 ^1;");
        fault(1, "knots 3;first^;");
        fault(1, "knots 3;first join ^cut;");
        fault(1, "knots 3;first cut ^join;");
        fault(1, "knots 3;first ^0;");
    }

    private void numbers() {
        terms("N: digits.");
        good("knots 08;", 1);
        good("knots " + "0".repeat(500) + "8;", 1);
        due("knots by many digits", 8, game("knots " + "0".repeat(500) + "8;").count(0));
        good("knots 3;line 00 0001;joined 000;", 3);
        fault(1, "knots ^-2;");
        fault(1, "knots ^+2;");
        fault(1, "knots 2^.;");
        fault(1, "knots 2^,0;");
        // Each of these would be a good number in 8, 16, 32 or 64 bits.
        for (String wrapped : new String[] {"258", "65538", "4294967298", "18446744073709551618"}) {
            fault(2, "knots ^" + wrapped + ";");
            fault(1, "knots 3;line ^" + wrapped + " 0;");
            fault(1, "knots 3;line 0 ^" + wrapped + ";");
            fault(1, "knots 3;ends ^" + wrapped + " 0;");
            fault(1, "knots 3;ends 0 ^" + wrapped + ";");
        }
        for (String wrapped : new String[] {"256", "65536", "4294967296", "18446744073709551616", "32", "64"}) {
            fault(1, "knots 3;line 0 1;joined ^" + wrapped + ";");
            fault(1, "knots 3;line 0 1;gone ^" + wrapped + ";");
        }
        fault(2, "knots ^" + "9".repeat(500) + ";");
        fault(1, "knots 3;line 0 ^" + "9".repeat(500) + ";");
        fault(1, "knots 3;line 0 ^1" + "0".repeat(500) + ";");
    }

    private void blanks() {
        terms("Blanks 10, 32.");
        good("\n \n", 0);
        good(" \nknots\n \n2 \n;\n ends\n0\n1;\n \n", 2);
        good("knots 2;line 0 1;line 0 1;", 3);
        good("knots 2 ; line 0 1 ; line 0 1 ;", 3);
        for (int sign = 0; sign < 256; sign++) {
            if (sign == 10 || sign == 32) {
                good((char) sign + "knots" + (char) sign + "2" + (char) sign + ";" + (char) sign, 1);
            } else {
                fault(1, "knots 2;^" + (char) sign);
            }
        }
        for (char sign : new char[] {0, 9, 11, 12, 13, 31, 33, 127, 133, 160, 255}) {
            fault(1, "^" + sign + "knots 2;");
            fault(1, "knots^" + sign + "2;");
            fault(1, "knots 2^" + sign + ";");
        }
        fault(1, "^kno ts 2;");
        fault(1, "^knot\ns 2;");
        fault(1, "knots 2 ^2;");
    }

    private void knots() {
        terms("knots, once,");
        good("knots 2;line 0 1;", 2);
        fault(3, "knots 2;^knots 2;");
        fault(3, "knots 2;line 0 1;^knots 3;");

        terms("ahead of all others:");
        for (String other : OTHERS) {
            fault(1, "^" + other + "knots 2;");
            fault(1, " \n^" + other);
        }

        terms("KNOTS 2 .. 8, numbered from 0 on.");
        for (int k = 2; k <= 8; k++) {
            good("knots " + k + ";line 0 " + (k - 1) + ";line " + (k - 1) + " 0;", 3);
            fault(1, "knots " + k + ";line 0 ^" + k + ";");
            fault(1, "knots " + k + ";line ^" + k + " 0;");
            SwitchGame game = game("knots " + k + ";");
            due("count(0)", k, game.count(0));
            due("place of the last", k - 1, game.place(k - 1));
            due("place behind the last", -1, game.place(k));
        }
        for (String k : new String[] {"0", "1", "9", "10"}) {
            fault(2, "knots ^" + k + ";");
        }
    }

    private void ends() {
        terms("ends, once: two KNOTS");
        good("knots 3;ends 0 1;", 2);
        fault(3, "knots 3;ends 0 1;^ends 0 1;");
        fault(3, "knots 3;ends 0 1;line 0 1;^ends 1 2;");
        SwitchGame game = game("knots 8;ends 7 3;");
        due("the first one", 7, game.count(2));
        due("the second one", 3, game.count(3));
        fault(1, "knots 8;ends ^8 0;");
        fault(1, "knots 8;ends 0 ^8;");
        game = game("knots 3;line 0 1;ends 0 1;joined 0;");
        due("told behind lines", 0, game.now(1));

        terms("(without: 0 and the last one).");
        for (int k = 2; k <= 8; k++) {
            game = game("knots " + k + ";");
            due("the first one of " + k, 0, game.count(2));
            due("the last one of " + k, k - 1, game.count(3));
        }
        game = game("knots 5;ends 3 2;");
        due("another text", 1, Tape.read(game, "knots 4;"));
        due("the first one is 0 again", 0, game.count(2));
        due("the last one again", 3, game.count(3));
    }

    private void lines() {
        terms("line, at most 14:");
        good(lines("knots 2;", 14), 15);
        fault(2, lines("knots 2;", 14) + "^line 0 1;");
        fault(2, lines("knots 2;", 14) + "joined 0;^line 0 1;");
        due("all fourteen", 14, game(lines("knots 2;", 14)).count(1));
        due("none", 0, game("knots 2;").count(1));

        terms("a LINE between two KNOTS, numbered from 0 on, OPEN.");
        SwitchGame game = game("knots 8;line 7 0;line 3 4;line 3 4;line 0 7;");
        due("line(0, 0)", 7, game.line(0, 0));
        due("line(0, 1)", 0, game.line(0, 1));
        due("line(2, 0)", 3, game.line(2, 0));
        due("line(3, 1)", 7, game.line(3, 1));
        game = game(lines("knots 2;", 14));
        for (int i = 0; i < 14; i++) {
            due("OPEN " + i, 0, game.line(i, 2));
        }
        due("no line behind the last", 1000, Checks.lineOf(game, 14, 2));
    }

    private void standing() {
        terms("joined, gone: a LINE told ahead");
        good(lines("knots 2;", 14) + "joined 13;gone 0;", 17);
        fault(1, lines("knots 2;", 14) + "joined ^14;");
        fault(1, lines("knots 2;", 14) + "gone ^14;");
        fault(1, "knots 2;joined ^0;line 0 1;");
        fault(1, "knots 2;gone ^0;line 0 1;");
        fault(1, "knots 2;line 0 1;joined ^1;line 0 1;");
        fault(1, "knots 2;line 0 1;gone ^1;line 0 1;");

        terms("that is OPEN becomes JOINED, GONE.");
        SwitchGame game = game("knots 3;line 0 1;line 0 1;line 1 2;joined 2;gone 0;");
        due("gone 0", 2, game.line(0, 2));
        due("OPEN", 0, game.line(1, 2));
        due("joined 2", 1, game.line(2, 2));
        fault(3, "knots 2;line 0 1;joined 0;joined ^0;");
        fault(3, "knots 2;line 0 1;joined 0;gone ^0;");
        fault(3, "knots 2;line 0 1;gone 0;joined ^0;");
        fault(3, "knots 2;line 0 1;gone 0;gone ^0;");
        fault(3, lines("knots 2;", 14) + "gone 13;gone ^13;");
    }

    private void first() {
        terms("first, once:");
        for (String again : new String[] {"join", "cut"}) {
            fault(3, "knots 2;first join;^first " + again + ";");
            fault(3, "knots 2;first cut;line 0 1;^first " + again + ";");
        }

        terms("who moves first (without: cut).");
        due("join", 0, game("knots 2;first join;").now(0));
        due("cut", 1, game("knots 2;first cut;").now(0));
        SwitchGame game = game("knots 2;first join;");
        due("another text", 1, Tape.read(game, "knots 2;"));
        due("without", 1, game.now(0));
        Tape.read(game, "knots 2;line 0 1;first join;");
        due("an empty one", 0, game.text(0));
        due("without, empty", 1, game.now(0));
    }

    private void faultsOfOrder() {
        terms("FAULTS, the first along the text");
        fault(3, "knots 3;line 0 ^0;line 9 9;foo");
        fault(1, "knots 3;line ^9 0;line 0 0;");
        fault(2, "knots ^9;knots 9;");
        fault(1, "knots 3;^foo;line 0 0;");
        fault(3, "knots 3;ends 1 ^1");
        fault(3, "knots 3;line 0 1;gone 0;gone ^0");
        fault(2, "knots ^99");

        terms("(of one byte the least number), with its place:");
        // At byte 0 a line stands ahead of knots (1); that its KNOTS are one (3) comes later.
        fault(1, "^line 0 0;");
        fault(1, "^ends 0 0;ends 0 0;");
        // No KNOT at all (1), both times the same one (3).
        fault(1, "knots 3;line ^3 3;");
        fault(1, "knots 3;ends ^3 3;");
        fault(1, "\n\n  ^first first;");
        // Told already (3), but where a ';' or an N is due (1).
        fault(1, "knots 3 ^knots 3;");
        fault(1, "knots ^knots 3;");
        fault(1, "knots 3;ends 0 1 ^ends 0 1;");
        fault(1, "knots 3;ends 0 ^ends 0 1;");
        fault(1, "knots 3;ends 0 1;line 0 ^ends 0 1;");
        fault(1, "knots 3;first cut ^first cut;");
        fault(1, "knots 3;first ^knots 3;");
        fault(1, "knots 3;first ^first join;");
        fault(1, "knots 3;line 0 1;joined 0 ^0;");
        fault(1, "knots 3;line 0 1;gone 0 ^0;");
        fault(1, "knots 3;line 0 1 ^1;");
        fault(1, "knots 3;ends 0 1 ^1;");
        // Too much (2), but where a ';' or an N is due (1).
        String fourteenth = lines("knots 2;", 13) + "line 0 1";
        fault(1, fourteenth + " ^line 0 1;");
        fault(1, fourteenth + ";ends ^line 0 1;");
        fault(1, fourteenth + ";joined ^line 0 1;");
        fault(1, "knots 3 ^9;");
        SwitchGame game = new SwitchGame();
        Tape.read(game, " ".repeat(599) + "x");
        due("a place far behind", 599, game.fault(1));
    }

    private void faultsThatCantStand() {
        terms("1 a TOKEN that is none,");
        for (char sign : new char[] {'!', '#', '-', ',', ':', '.', '_', '/', '@', '`', '{', 'A', 'Z', 0, 127, 128, 255}) {
            fault(1, "^" + sign);
            fault(1, "knots ^" + sign + ";");
            fault(1, "knots 2 ^" + sign + ";");
            fault(1, "knots 2;line 0 ^" + sign + ";");
            fault(1, "knots 2;first ^" + sign + ";");
        }

        terms("or can't stand there");
        fault(1, "knots ^ends;");
        fault(1, "knots ^;");
        fault(1, "knots 3;^0;");
        fault(1, "knots 3;^join;");
        fault(1, "knots 3;^cut;");
        fault(1, "knots 3;line ^line;");
        fault(1, "knots 3;line 0 ^line 1;");
        fault(1, "knots 3;line 0 1;joined ^gone;");
        fault(1, "knots 3;line 0 1 ^joined 0;");
        fault(1, "knots 3;first ^first;");

        terms("(a word that is none of these;");
        for (String word : new String[] {"knot", "knotss", "nots", "knotz", "lines", "lin", "end", "ende", "join", "joine",
            "joinedd", "gon", "gones", "firs", "firsts", "cut", "cuts", "a", "z", "open", "knotsa", "knotsz", "linea", "endsz",
            "anots", "xine", "xnds", "xoined", "xone", "xirst", "line" + "line"}) {
            fault(1, "knots 2;line 0 1;^" + word + " 0;");
            fault(1, "^" + word + " 2;");
        }
        for (String word : new String[] {"xoin", "xut", "joined", "joi", "joins", "cuts", "cu", "gone", "none", "knots", "line", "ends"}) {
            fault(1, "knots 2;first ^" + word + ";");
        }
        fault(1, "^Knots 2;");
        fault(1, "^KNOTS 2;");

        terms("anything ahead of knots;");
        for (String thing : new String[] {";", "2", "0", "x", "-", "knot", "join", "cut", "ends", "line", "joined", "gone",
            "first", "\0", "\u00ff"}) {
            fault(1, "^" + thing);
            fault(1, "^" + thing + " knots 2;");
        }

        terms("an N that is no KNOT, no LINE;");
        fault(1, "knots 2;line ^2 0;");
        fault(1, "knots 2;line 0 ^2;");
        fault(1, "knots 2;ends ^2 0;");
        fault(1, "knots 2;ends 0 ^2;");
        fault(1, "knots 2;joined ^0;");
        fault(1, "knots 2;gone ^0;");
        fault(1, "knots 2;line 0 1;joined ^1;");
        fault(1, "knots 2;line 0 1;gone ^1;");
        good("knots 2;line 1 0;gone 0;ends 1 0;", 4);

        terms("the length, if more must come).");
        for (String part : new String[] {"knots", "knots 3", "knots 3;ends", "knots 3;ends 0", "knots 3;ends 0 1",
            "knots 3;line", "knots 3;line 0", "knots 3;line 0 1", "knots 3;line 0 1;joined", "knots 3;line 0 1;joined 0",
            "knots 3;line 0 1;gone", "knots 3;line 0 1;gone 0", "knots 3;first", "knots 3;first join", "knots 3;first cut"}) {
            fault(1, part + "^");
            fault(1, part + " ^");
            fault(1, part + "\n \n^");
        }
        good("knots 3;", 1);
        good("knots 3; \n", 1);
        SwitchGame game = new SwitchGame();
        Tape.feed(game, "knots 2;");
        due("a text ends at n, though the TAPE goes on", -1, game.text(7));
        due("fault", 1, game.fault(0));
        due("place", 7, game.fault(1));
        Tape.feed(game, "knots 2;first cut;");
        due("a word ends at n, though its letters go on", -1, game.text(16));
        due("fault", 1, game.fault(0));
        due("place", 14, game.fault(1));
        Tape.feed(game, "knots 2;");
        due("the first word, likewise", -1, game.text(4));
        due("place", 0, game.fault(1));
        Tape.feed(game, "knots 2;lines");
        due("a word that is whole at n", -1, game.text(12));
        due("place", 12, game.fault(1));
        Tape.feed(game, "knots 2" + " ".repeat(593));
        due("a full TAPE", -1, game.text(600));
        due("its length", 600, game.fault(1));
    }

    private void faultsOfTooMuch() {
        terms("2 too much (at it): KNOTS beyond 2 .. 8,");
        for (String k : new String[] {"0", "00", "1", "01", "9", "10", "14", "28", "82", "100", "1000000", "1000002"}) {
            fault(2, "knots ^" + k + ";");
            fault(2, "\nknots  ^" + k);
        }
        good("knots 2;", 1);
        good("knots 8;", 1);

        terms("a 15th line (at the word).");
        String fourteen = lines("knots 2;", 14);
        fault(2, fourteen + "^line 0 1;");
        fault(2, fourteen + "^line");
        fault(2, fourteen + "^line 0 0;");
        fault(2, fourteen + "^line 9;");
        fault(2, fourteen + "\n ^line 0 1;");
        fault(2, fourteen + "gone 0;joined 1;^line 0 1;");
        good(fourteen + "first join;", 16);
    }

    private void faultsOfToldAlready() {
        terms("3 told already: knots, ends, first (at the word);");
        fault(3, "knots 3;^knots");
        fault(3, "knots 3;^knots 9;");
        fault(3, "knots 3; ^knots x");
        fault(3, "knots 3;ends 0 1;^ends");
        fault(3, "knots 3;ends 0 1;^ends 2 2;");
        fault(3, "knots 3;ends 0 1;\n^ends 9;");
        fault(3, "knots 3;first cut;^first");
        fault(3, "knots 3;first cut; ^first foo;");

        terms("the second KNOT of ends, of a line, that is the first one (at it);");
        for (int k = 0; k < 8; k++) {
            fault(3, "knots 8;ends " + k + " ^" + k + ";");
            fault(3, "knots 8;line " + k + " ^" + k + ";");
        }
        fault(3, "knots 8;line 1 ^01;");
        fault(3, "knots 8;ends 01  ^1;");
        fault(3, "knots 8;line 2 ^2");

        terms("a LINE that isn't OPEN (at it).");
        fault(3, "knots 2;line 0 1;line 0 1;joined 0;gone 1;joined ^0;");
        fault(3, "knots 2;line 0 1;line 0 1;joined 0;gone 1;joined ^1;");
        fault(3, "knots 2;line 0 1;line 0 1;joined 0;gone 1;gone ^0;");
        fault(3, "knots 2;line 0 1;line 0 1;joined 0;gone 1;gone ^1");
        fault(3, "knots 2;line 0 1;joined 0;joined  ^00;");
        good("knots 2;line 0 1;line 0 1;joined 0;gone 1;", 5);
    }

    private void noKnots() {
        terms("Of a text with no knots: KNOTS 2, no LINES.");
        for (String text : new String[] {"", " ", "\n\n  \n"}) {
            SwitchGame game = game("knots 8;ends 7 3;line 0 1;line 7 3;joined 1;first join;");
            due("text '" + text + "'", 0, Tape.read(game, text));
            row("count", game::count, 0, 2, 0, 0, 1, 0, 0);
            row("now", game::now, 0, 1, 1, 0, 0, 0, 2, 0);
            due("no line", 1000, Checks.lineOf(game, 0, 0));
            due("no third KNOT", -1, game.place(2));
        }
    }
}
