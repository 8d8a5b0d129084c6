import java.util.Random;

/** FAULTS with their places: by hand, and by texts marred by chance against a reading of its own. */
public final class TextTest {
    private final Checks checks = new Checks();
    private final Random random = new Random(44);

    public static void main(String[] args) {
        TextTest test = new TextTest();
        test.byHand();
        test.lines();
        for (int turn = 0; turn < 60000; turn++) {
            test.byChance();
        }
        test.checks.end("TextTest");
    }

    private void fault(String text, int number, int place) {
        checks.about("text '" + text + "'");
        SwitchGame game = new SwitchGame();
        checks.due("text", -1, Tape.read(game, text));
        checks.due("fault", number, game.fault(0));
        checks.due("place", place, game.fault(1));
        checks.due("knots stay", 2, game.count(0));
        checks.due("lines stay", 0, game.count(1));
        checks.due("lines of text stay", 0, game.count(4));
        checks.due("tape is empty", 0, game.count(5));
    }

    private void good(String text, int told) {
        checks.about("text '" + text + "'");
        SwitchGame game = new SwitchGame();
        checks.due("text", told, Tape.read(game, text));
        checks.due("fault", 0, game.fault(0));
        checks.due("place", -1, game.fault(1));
    }

    private void byHand() {
        good("", 0);
        good("  \n ", 0);
        good("knots 2;", 1);
        good("knots 8;", 1);
        good("knots 0008;", 1);
        good("knots\n8\n;\n", 1);
        good("knots 3;line 0 1;ends 1 2;gone 0;first cut;", 5);
        // 1: ahead of knots, none of the words, what can't stand there, what is no KNOT, no LINE
        fault(";", 1, 0);
        fault(" 3;", 1, 1);
        fault("line 0 1;", 1, 0);
        fault("first cut;", 1, 0);
        fault("knot 3;", 1, 0);
        fault("Knots 3;", 1, 0);
        fault("knotsa 3;", 1, 0);
        fault("knotsz 3;", 1, 0);
        fault("zknots 3;", 1, 0);
        fault("\tknots 3;", 1, 0);
        fault("knots", 1, 5);
        fault("knots  ", 1, 7);
        fault("knots ;", 1, 6);
        fault("knots two;", 1, 6);
        fault("knots -2;", 1, 6);
        fault("knots 3", 1, 7);
        fault("knots 3  ", 1, 9);
        fault("knots 3 3;", 1, 8);
        fault("knots 3;;", 1, 8);
        fault("knots 3;4;", 1, 8);
        fault("knots 3;join;", 1, 8);
        fault("knots 3;cut;", 1, 8);
        fault("knots 3;lines 0 1;", 1, 8);
        fault("knots 3;line 3 1;", 1, 13);
        fault("knots 3;line 0 3;", 1, 15);
        fault("knots 3;line 0;", 1, 14);
        fault("knots 3;line 0 1 2;", 1, 17);
        fault("knots 3;line 0 99999999999999999999;", 1, 15);
        fault("knots 3;line 0 4294967297;", 1, 15);
        fault("knots 3;ends 3 0;", 1, 13);
        fault("knots 3;ends 0 3;", 1, 15);
        fault("knots 3;ends 0 1,", 1, 16);
        fault("knots 3;joined 0;", 1, 15);
        fault("knots 3;gone 0;line 0 1;", 1, 13);
        fault("knots 3;line 0 1;joined 1;", 1, 24);
        fault("knots 3;line 0 1;joined;", 1, 23);
        fault("knots 3;first;", 1, 13);
        fault("knots 3;first line;", 1, 14);
        fault("knots 3;first 0;", 1, 14);
        fault("knots 3;first joined;", 1, 14);
        fault("knots 3;first join cut;", 1, 19);
        // 2: too much
        fault("knots 1;", 2, 6);
        fault("knots 0;", 2, 6);
        fault("knots 9;", 2, 6);
        fault("knots 10", 2, 6);
        fault("knots 4294967298;", 2, 6);
        fault("knots 99999999999999999999999;", 2, 6);
        // 3: told already
        fault("knots 3;knots 3;", 3, 8);
        fault("knots 3;knots 9;", 3, 8);
        fault("knots 3;ends 0 1;ends 0 1;", 3, 17);
        fault("knots 3;first join;first cut;", 3, 19);
        fault("knots 3;first cut;first", 3, 18);
        fault("knots 3;ends 2 2;", 3, 15);
        fault("knots 3;line 1 01;", 3, 15);
        fault("knots 3;line 0 1;joined 0;joined 0;", 3, 33);
        fault("knots 3;line 0 1;joined 0;gone 0;", 3, 31);
        fault("knots 3;line 0 1;gone 0;gone 0;", 3, 29);
        fault("knots 3;line 0 1;gone 0;joined 0;", 3, 31);
        // the first along the text
        fault("knots 3;line 1 1;line 7 7;foo", 3, 15);
        fault("knots 9;knots 3;", 2, 6);
    }

    private void lines() {
        StringBuilder text = new StringBuilder("knots 2;");
        for (int i = 0; i < 14; i++) {
            text.append("line 0 1;");
        }
        good(text.toString(), 15);
        fault(text + "line 0 1;", 2, text.length());
        fault(text + "line", 2, text.length());
        good(text + "joined 13;gone 0;", 17);
        fault(text + "joined 14;", 1, text.length() + 7);
        checks.about("600 bytes");
        SwitchGame game = new SwitchGame();
        StringBuilder full = new StringBuilder(text);
        while (full.length() < 600) {
            full.append(' ');
        }
        checks.due("text", 15, Tape.read(game, full.toString()));
        full.setCharAt(599, '!');
        checks.due("text", -1, Tape.read(game, full.toString()));
        checks.due("fault", 1, game.fault(0));
        checks.due("place", 599, game.fault(1));
        checks.due("lines stay", 14, game.count(1));
    }

    private static final String[] BITS = {"knots ", "ends ", "line ", "joined ", "gone ", "first ", "join", "cut",
        ";", " ", "\n", "0", "1", "2", "7", "14", "x", "K", "\u00e9", "\0", "-"};

    private String marred(String text) {
        StringBuilder marred = new StringBuilder(text);
        int times = random.nextInt(4);
        for (int t = 0; t < times && marred.length() > 0; t++) {
            int at = random.nextInt(marred.length());
            switch (random.nextInt(4)) {
                case 0: marred.deleteCharAt(at); break;
                case 1: marred.insert(at, BITS[random.nextInt(BITS.length)]); break;
                case 2: marred.replace(at, at + 1, BITS[random.nextInt(BITS.length)]); break;
                default: marred.setLength(at + 1); break;
            }
        }
        return marred.toString();
    }

    private void byChance() {
        String text = marred(Nets.text(random, new Model(), 2 + random.nextInt(7), random.nextInt(17), 20));
        if (text.length() > 580) {
            return;
        }
        SwitchGame game = new SwitchGame();
        checks.about("text '" + text + "'");
        int answer = Tape.read(game, text);
        try {
            Model model = Reading.of(text);
            checks.due("text", model.told, answer);
            checks.due("fault", 0, game.fault(0));
            checks.due("place", -1, game.fault(1));
            for (int what = 0; what < 6; what++) {
                checks.due("count(" + what + ")", model.count(what), game.count(what));
                checks.due("now(" + what + ")", model.now(what), game.now(what));
            }
            for (int i = 0; i < model.lines.size(); i++) {
                for (int what = 0; what < 3; what++) {
                    checks.due("line(" + i + ", " + what + ")", model.line(i, what), Checks.lineOf(game, i, what));
                }
            }
        } catch (Reading.Fault due) {
            checks.due("text", -1, answer);
            checks.due("fault", due.number, game.fault(0));
            checks.due("place", due.place, game.fault(1));
            checks.due("knots", 2, game.count(0));
        }
    }
}
