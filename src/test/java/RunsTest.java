import java.lang.reflect.InvocationTargetException;
import java.lang.reflect.Method;
import java.lang.reflect.Modifier;
import java.util.ArrayList;
import java.util.List;
import java.util.NoSuchElementException;
import java.util.Random;

/** Whole runs of 512 calls on one object, several texts in each, every answer held against the Model. */
public final class RunsTest {
    private static final int MOST_CALLS = 512;
    /** What the Model goes through slowly is asked of few OPEN lines, or seldom. */
    private static final String SLOW = "verified verifiedForCut forests full played strong ";
    private static final int[] EDGES = {Integer.MIN_VALUE, -65536, -256, -32, -4, -3, -2, 15, 16, 31, 32, 33, 40, 41, 50, 51,
        64, 256, 599, 600, 601, 65536, Integer.MAX_VALUE};

    private final Checks checks = new Checks();
    private final Random random = new Random(1118);
    private final List<Method> asking = new ArrayList<>();
    private SwitchGame game;
    private WholeModel model;
    private int calls;

    public static void main(String[] args) throws ReflectiveOperationException {
        new RunsTest().run();
    }

    private void run() throws ReflectiveOperationException {
        for (Method method : SwitchGame.class.getDeclaredMethods()) {
            if (Modifier.isPublic(method.getModifiers()) && !"feed text move pass undo ".contains(method.getName() + " ")) {
                asking.add(method);
            }
        }
        asking.sort((a, b) -> a.getName().compareTo(b.getName()));
        for (int turn = 0; turn < 160; turn++) {
            oneRun(turn, turn % 16 == 15 ? 14 : 8);
        }
        checks.end("RunsTest");
    }

    private void oneRun(int turn, int mostLines) throws ReflectiveOperationException {
        game = new SwitchGame();
        model = new WholeModel();
        calls = 0;
        while (calls < MOST_CALLS - 60) {
            checks.about("run " + turn + " of RunsTest, call " + calls);
            newText(mostLines);
            int stretch = 10 + random.nextInt(120);
            for (int i = 0; i < stretch && calls < MOST_CALLS; i++) {
                checks.about("run " + turn + " of RunsTest, call " + calls);
                if (random.nextInt(3) == 0) {
                    change();
                } else {
                    ask(asking.get(random.nextInt(asking.size())));
                }
            }
        }
    }

    /** Feeds a text and reads all of it, mostly; some are marred, some are read in part. */
    private void newText(int mostLines) {
        String text = Nets.text(random, new Model(), 2 + random.nextInt(7), random.nextInt(mostLines + 1), 25);
        if (random.nextInt(4) == 0) {
            int at = random.nextInt(text.length());
            text = text.substring(0, at) + "; 0x19\n".charAt(random.nextInt(7)) + text.substring(at + 1);
        }
        int length = model.tapeLength() + text.length();
        for (int at = 0; at < text.length(); at += 20) {
            int[] numbers = new int[5];
            for (int i = 0; i < 20; i++) {
                int sign = at + i < text.length() ? text.charAt(at + i) : 32;
                numbers[i / 4] = numbers[i / 4] << 8 | sign;
            }
            feed(numbers);
        }
        text(random.nextInt(8) == 0 ? random.nextInt(length + 30) - 5 : length);
    }

    private void feed(int[] n) {
        calls++;
        checks.due("feed", model.feed(n[0], n[1], n[2], n[3], n[4]), game.feed(n[0], n[1], n[2], n[3], n[4]));
    }

    private void text(int n) {
        calls++;
        checks.due("text(" + n + ")", model.text(n), game.text(n));
    }

    private void change() {
        int i = random.nextInt(model.net.lines.size() + 2) - 1;
        switch (random.nextInt(12)) {
            case 0: feed(new int[] {random.nextInt(), 0x20202020, 0, -1, i}); return;
            case 1: text(i); return;
            case 2:
            case 3: checks.due("undo()", model.net.undo(), game.undo()); break;
            case 4:
            case 5: checks.due("move(" + i + ")", model.net.move(i), game.move(i)); break;
            default: checks.due("pass()", model.net.pass(), game.pass() ? 1 : 0); break;
        }
        calls++;
    }

    private int number() {
        switch (random.nextInt(6)) {
            case 0: return EDGES[random.nextInt(EDGES.length)];
            case 1: return random.nextInt();
            default: return random.nextInt(10) - 1;
        }
    }

    private void ask(Method method) throws ReflectiveOperationException {
        String name = method.getName();
        int open = model.net.now(2);
        if (SLOW.contains(name + " ") && (open > 7 && open < 11 || open > 10 && random.nextInt(4) > 0)) {
            return;
        }
        Object[] arguments = new Object[method.getParameterCount()];
        StringBuilder call = new StringBuilder(name);
        for (int i = 0; i < arguments.length; i++) {
            arguments[i] = number();
            call.append(' ').append(arguments[i]);
        }
        calls++;
        model.net.fresh();
        checks.due(call.toString(), wanted(method, arguments), got(method, arguments));
    }

    private int wanted(Method method, Object[] arguments) throws ReflectiveOperationException {
        if ("fault count ".contains(method.getName() + " ")) {
            return (int) WholeModel.class.getMethod(method.getName(), method.getParameterTypes()).invoke(model, arguments);
        }
        return (int) Model.class.getMethod(method.getName(), method.getParameterTypes()).invoke(model.net, arguments);
    }

    /** As Checks.lineOf: 1000 and 2000 for what line() throws; -1000 for what no call may throw. */
    private int got(Method method, Object[] arguments) throws IllegalAccessException {
        try {
            return (int) method.invoke(game, arguments);
        } catch (InvocationTargetException e) {
            if (e.getCause().getClass() == IndexOutOfBoundsException.class) {
                return 1000;
            }
            return e.getCause().getClass() == NoSuchElementException.class ? 2000 : -1000;
        }
    }
}
