import java.lang.reflect.InvocationTargetException;
import java.lang.reflect.Method;
import java.lang.reflect.Modifier;
import java.util.ArrayList;
import java.util.List;
import java.util.NoSuchElementException;
import java.util.Random;

/** Any calls with any numbers: nothing is thrown but by line(), and what is asked changes nothing. */
public final class AnyCallTest {
    private static final int[] EDGES = {Integer.MIN_VALUE, Integer.MIN_VALUE + 1, -1000, -4, -3, -2, -1, 0, 1, 2, 3, 7, 8,
        9, 10, 13, 14, 15, 16, 17, 31, 32, 33, 63, 64, 600, 601, 65536, Integer.MAX_VALUE - 1, Integer.MAX_VALUE};
    private static final String CHANGING = "feed text move pass undo ";

    private final Checks checks = new Checks();
    private final Random random = new Random(512);

    public static void main(String[] args) throws IllegalAccessException {
        new AnyCallTest().run();
    }

    private void run() throws IllegalAccessException {
        List<Method> methods = new ArrayList<>();
        for (Method method : SwitchGame.class.getDeclaredMethods()) {
            if (Modifier.isPublic(method.getModifiers())) {
                methods.add(method);
            }
        }
        methods.sort((a, b) -> a.getName().compareTo(b.getName()));
        for (int turn = 0; turn < 400; turn++) {
            SwitchGame game = new SwitchGame();
            if (turn % 8 != 0) {
                String text = Nets.text(random, new Model(), 2 + random.nextInt(7), random.nextInt(15), turn % 40);
                Tape.read(game, text);
            }
            for (int call = 0; call < 450; call++) {
                oneCall(game, methods.get(random.nextInt(methods.size())));
            }
        }
        checks.end("AnyCallTest");
    }

    private void oneCall(SwitchGame game, Method method) throws IllegalAccessException {
        Object[] arguments = new Object[method.getParameterCount()];
        StringBuilder call = new StringBuilder(method.getName());
        for (int i = 0; i < arguments.length; i++) {
            arguments[i] = number();
            call.append(' ').append(arguments[i]);
        }
        boolean asks = !CHANGING.contains(method.getName() + " ");
        String before = asks ? State.withTape(game) : "";
        checks.about(call.toString());
        Throwable thrown = null;
        try {
            method.invoke(game, arguments);
        } catch (InvocationTargetException e) {
            thrown = e.getCause();
        }
        boolean fine = thrown == null || method.getName().equals("line")
                && (thrown.getClass() == IndexOutOfBoundsException.class
                || thrown.getClass() == NoSuchElementException.class);
        checks.due("throws nothing else", 1, fine ? 1 : 0);
        if (asks) {
            checks.due("changes nothing", 1, before.equals(State.withTape(game)) ? 1 : 0);
        }
    }

    private int number() {
        switch (random.nextInt(4)) {
            case 0: return EDGES[random.nextInt(EDGES.length)];
            case 1: return random.nextInt();
            default: return random.nextInt(16) - 1;
        }
    }
}
