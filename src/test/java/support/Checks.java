import java.util.NoSuchElementException;

/** Counts what is as due and prints what is not. */
public final class Checks {
    private static final int MOST_PRINTED = 40;
    private int right = 0;
    private int wrong = 0;
    private String about = "";

    public void about(String what) {
        about = what;
    }

    public void due(String call, long want, long got) {
        if (want == got) {
            right++;
            return;
        }
        wrong++;
        if (wrong <= MOST_PRINTED) {
            System.out.println(about + ": " + call + " answered " + got + ", due is " + want);
        }
    }

    /** line() with 1000 for IndexOutOfBoundsException and 2000 for NoSuchElementException. */
    public static int lineOf(SwitchGame game, int i, int what) {
        try {
            return game.line(i, what);
        } catch (IndexOutOfBoundsException e) {
            return 1000;
        } catch (NoSuchElementException e) {
            return 2000;
        }
    }

    public int asked() {
        return right + wrong;
    }

    /** Ends the test: exit code 1, if something was wrong, or nothing was asked. */
    public void end(String name) {
        System.out.println(name + ": " + right + " answers as due, " + wrong + " not");
        if (wrong > 0 || right == 0) {
            System.exit(1);
        }
    }
}
