import java.util.Random;

/** Nets with many lines that have PAIRS, up to eight PLACES and fourteen lines, against the Model. */
public final class DenseTest {
    private final Checks checks = new Checks();
    private final Random random = new Random(8);

    public static void main(String[] args) {
        DenseTest test = new DenseTest();
        for (int turn = 0; turn < 120; turn++) {
            test.oneNet(turn, 2 + turn % 7);
        }
        for (int turn = 0; turn < 30; turn++) {
            test.gamesOfTen(turn);
        }
        test.checks.end("DenseTest");
    }

    /** Two trees by chance on all KNOTS, the lines shuffled, and lines more up to fourteen. */
    private Model twoTrees(int knots, int extra, boolean lackOne) {
        Model model = new Model();
        model.knots = knots;
        model.endB = knots - 1;
        model.told = 1;
        for (int tree = 0; tree < 2; tree++) {
            for (int k = 1; k < knots; k++) {
                model.lines.add(new int[] {k, random.nextInt(k)});
            }
        }
        for (int e = 0; e < extra && model.lines.size() < 14; e++) {
            int a = random.nextInt(knots);
            model.lines.add(new int[] {a, (a + 1 + random.nextInt(knots - 1)) % knots});
        }
        java.util.Collections.shuffle(model.lines, random);
        if (lackOne) {
            model.lines.remove(0);
        }
        model.state = new int[model.lines.size()];
        model.told += model.lines.size();
        return model;
    }

    private static String textOf(Model model) {
        StringBuilder text = new StringBuilder("knots " + model.knots + ";");
        for (int[] line : model.lines) {
            text.append("line ").append(line[0]).append(' ').append(line[1]).append(';');
        }
        return text.toString();
    }

    private void oneNet(int turn, int knots) {
        Model model = twoTrees(knots, random.nextInt(3), turn % 4 == 3);
        SwitchGame game = Tape.game(textOf(model));
        checks.about("net " + turn + " " + textOf(model));
        for (int what = 0; what < 4; what++) {
            checks.due("pair(" + what + ")", model.pair(what), game.pair(what));
        }
        checks.due("outcome()", model.outcome(), game.outcome());
        checks.due("lacks()", model.lacks(), game.lacks());
        checks.due("trees()", model.trees(), game.trees());
        for (int i = 0; i < model.lines.size(); i++) {
            checks.due("answer(" + i + ")", model.answer(i), game.answer(i));
            checks.due("exchange(" + i + ")", model.exchange(i), game.exchange(i));
            checks.due("treesWith(" + i + ")", model.treesWith(i), game.treesWith(i));
            checks.due("ifLine(" + i + ", 1)", model.ifLine(i, 1), game.ifLine(i, 1));
        }
        for (int k = 0; k < 4; k++) {
            checks.due("set(" + k + ")", model.set(k), game.set(k));
            checks.due("duel(" + k + ")", model.duel(k), game.duel(k));
        }
        for (int what = 0; what < 3; what++) {
            checks.due("forests(" + what + ")", model.forests(what), game.forests(what));
        }
        if (model.lines.size() <= 10) {
            checks.due("played(-1)", model.played(-1), game.played(-1));
            checks.due("full(1)", model.full(1), game.full(1));
        }
    }

    /** One tree by chance and lines more: CUT mostly wins. */
    private Model oneTree(int knots) {
        Model model = new Model();
        model.knots = knots;
        model.endB = knots - 1;
        for (int k = 1; k < knots; k++) {
            model.lines.add(new int[] {k - 1, k});
        }
        while (model.lines.size() < 10) {
            int a = random.nextInt(knots - 2);
            model.lines.add(new int[] {a, a + 1 + random.nextInt(2)});
        }
        return model;
    }

    /** Ten OPEN lines: all games where the answers are taken. */
    private void gamesOfTen(int turn) {
        Model model = turn % 2 == 0 ? twoTrees(3 + turn / 2 % 4, 14, false) : oneTree(6 + turn / 2 % 3);
        while (model.lines.size() > 10) {
            model.lines.remove(model.lines.size() - 1);
        }
        model.state = new int[10];
        if (turn % 3 == 0) {
            model.state[random.nextInt(10)] = 2;
        }
        StringBuilder text = new StringBuilder(textOf(model));
        for (int i = 0; i < 10; i++) {
            text.append(model.state[i] == 2 ? "gone " + i + ";" : "");
        }
        SwitchGame game = Tape.game(text.toString());
        checks.about("ten " + turn + " " + text);
        for (int what = 0; what < 2; what++) {
            checks.due("verified(" + what + ")", model.verified(what), game.verified(what));
            checks.due("verifiedForCut(" + what + ")", model.verifiedForCut(what), game.verifiedForCut(what));
        }
    }
}
