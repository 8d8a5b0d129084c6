import java.util.Random;

/** Nets by chance: every call of the face is held against the Model. */
public final class ModelTest {
    private final Checks checks = new Checks();
    private final Random random = new Random(20261117);

    public static void main(String[] args) {
        new ModelTest().run();
    }

    private void run() {
        for (int turn = 0; turn < 260; turn++) {
            int lines = turn % 9;
            oneNet(turn, 2 + random.nextInt(7), lines, turn % 3 * 15, 2);
        }
        for (int turn = 0; turn < 60; turn++) {
            oneNet(1000 + turn, 3 + random.nextInt(3), 9 + turn % 2, 10, 2);
        }
        for (int turn = 0; turn < 12; turn++) {
            oneNet(2000 + turn, 4 + random.nextInt(5), 11 + turn % 4, 10 * (turn % 2), 1);
        }
        checks.end("ModelTest");
    }

    private void oneNet(int turn, int knots, int lines, int shareStanding, int stretches) {
        Model model = new Model();
        String text = Nets.text(random, model, knots, lines, shareStanding);
        SwitchGame game = new SwitchGame();
        checks.about("net " + turn + " " + text);
        checks.due("text", model.told, Tape.read(game, text));
        for (int stretch = 0; stretch < stretches; stretch++) {
            checks.about("net " + turn + "." + stretch + " " + text + " " + model.history);
            model.fresh();
            askState(game, model);
            askPair(game, model);
            askGames(game, model);
            askSets(game, model);
            askWhatIf(game, model);
            askState(game, model);
            walk(game, model, 1 + random.nextInt(3));
        }
    }

    private void walk(SwitchGame game, Model model, int steps) {
        for (int s = 0; s < steps; s++) {
            int i = random.nextInt(model.lines.size() + 2) - 1;
            switch (random.nextInt(5)) {
                case 0: checks.due("pass()", model.pass(), game.pass() ? 1 : 0); break;
                case 1: checks.due("undo()", model.undo(), game.undo()); break;
                default: checks.due("move(" + i + ")", model.move(i), game.move(i)); break;
            }
        }
    }

    private void askState(SwitchGame game, Model model) {
        int n = model.lines.size();
        for (int what = -1; what <= 7; what++) {
            checks.due("now(" + what + ")", model.now(what), game.now(what));
            checks.due("count(" + what + ")", model.count(what), game.count(what));
        }
        for (int i = -1; i <= n; i++) {
            for (int what = -1; what <= 3; what++) {
                checks.due("line(" + i + ", " + what + ")", model.line(i, what), Checks.lineOf(game, i, what));
            }
        }
        for (int k = -1; k <= 8; k++) {
            checks.due("place(" + k + ")", model.place(k), game.place(k));
            for (int what = -1; what <= 2; what++) {
                checks.due("reaches(" + k + ", " + what + ")", model.reaches(k, what), game.reaches(k, what));
            }
        }
        for (int k = -1; k <= model.history.size(); k++) {
            checks.due("written(" + k + ")", model.written(k), game.written(k));
        }
    }

    private void askPair(SwitchGame game, Model model) {
        for (int what = -1; what <= 4; what++) {
            checks.due("pair(" + what + ")", model.pair(what), game.pair(what));
        }
        checks.due("outcome()", model.outcome(), game.outcome());
        checks.due("lacks()", model.lacks(), game.lacks());
        for (int i = -1; i <= model.lines.size(); i++) {
            checks.due("answer(" + i + ")", model.answer(i), game.answer(i));
            checks.due("exchange(" + i + ")", model.exchange(i), game.exchange(i));
        }
        for (int k = -1; k <= 5; k++) {
            checks.due("set(" + k + ")", model.set(k), game.set(k));
        }
        for (int what = -1; what <= 3; what++) {
            checks.due("forests(" + what + ")", model.forests(what), game.forests(what));
        }
    }

    private void askGames(SwitchGame game, Model model) {
        for (int k = -2; k <= model.lines.size(); k++) {
            for (int who = -1; who <= 2; who++) {
                checks.due("wins(" + who + ", " + k + ")", model.wins(who, k), game.wins(who, k));
            }
            checks.due("played(" + k + ")", model.played(k), game.played(k));
            checks.due("cutAnswer(" + k + ")", model.cutAnswer(k), game.cutAnswer(k));
        }
        for (int what = -1; what <= 2; what++) {
            if (model.now(2) <= 8 || model.now(2) > 10) {
                checks.due("verified(" + what + ")", model.verified(what), game.verified(what));
                checks.due("verifiedForCut(" + what + ")", model.verifiedForCut(what), game.verifiedForCut(what));
            }
            checks.due("full(" + what + ")", model.full(what), game.full(what));
        }
        for (int turn = 0; turn < 4; turn++) {
            int seed = random.nextInt() >>> 1;
            int n = 1 + random.nextInt(50);
            checks.due("chance(" + seed + ", " + n + ")", model.chance(seed, n), game.chance(seed, n));
            checks.due("duel(" + seed + ")", model.duel(seed), game.duel(seed));
        }
    }

    private void askSets(SwitchGame game, Model model) {
        for (int what = -1; what <= 4; what++) {
            checks.due("positions(" + what + ")", model.positions(what), game.positions(what));
            checks.due("wall(" + what + ")", model.wall(what), game.wall(what));
            checks.due("road(" + what + ")", model.road(what), game.road(what));
        }
        checks.due("needed()", model.needed(), game.needed());
        checks.due("trees()", model.trees(), game.trees());
        for (int k = -2; k <= model.lines.size() + 1; k++) {
            checks.due("lucky(" + k + ")", model.lucky(k), game.lucky(k));
            checks.due("walls(" + k + ")", model.walls(k), game.walls(k));
            checks.due("strong(" + k + ")", model.strong(k), game.strong(k));
            checks.due("luckyWith(" + k + ")", model.luckyWith(k), game.luckyWith(k));
            checks.due("pivots(" + k + ")", model.pivots(k), game.pivots(k));
            checks.due("treesWith(" + k + ")", model.treesWith(k), game.treesWith(k));
            for (int j = -1; j <= model.lines.size(); j++) {
                checks.due("alike(" + k + ", " + j + ")", model.alike(k, j), game.alike(k, j));
            }
        }
    }

    private void askWhatIf(SwitchGame game, Model model) {
        for (int i = -1; i <= model.lines.size(); i++) {
            checks.due("idle(" + i + ")", model.idle(i), game.idle(i));
            for (int how = -1; how <= 2; how++) {
                checks.due("ifLine(" + i + ", " + how + ")", model.ifLine(i, how), game.ifLine(i, how));
            }
        }
        for (int a = -1; a <= model.knots; a++) {
            int b = random.nextInt(model.knots + 2) - 1;
            checks.due("ifMore(" + a + ", " + b + ")", model.ifMore(a, b), game.ifMore(a, b));
            checks.due("ifEnds(" + a + ", " + b + ")", model.ifEnds(a, b), game.ifEnds(a, b));
        }
    }
}
