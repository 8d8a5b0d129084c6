import java.util.function.IntUnaryOperator;

/** Edge cases, each under the words of the document that name it. */
abstract class Edges {
    static final int FAR = Integer.MAX_VALUE;
    static final int LOW = Integer.MIN_VALUE;

    /** Two ends, two roads of two lines, and a line between their middles: who begins wins. */
    static final String BRIDGE = "knots 4;ends 0 3;line 0 1;line 0 2;line 1 2;line 1 3;line 2 3;";
    /** Two lines 0-1, two lines 1-2, one 0-2: JOIN wins, whoever begins. */
    static final String SAFE = "knots 3;line 0 1;line 0 1;line 1 2;line 1 2;line 0 2;";
    /** Two roads of two lines: CUT wins, whoever begins. */
    static final String ROADS = "knots 4;line 0 1;line 1 3;line 0 2;line 2 3;";
    /** Six lines, each between two other KNOTS of four. */
    static final String ALL_OF_FOUR =
            "knots 4;ends 0 1;line 0 1;line 0 2;line 0 3;line 1 2;line 1 3;line 2 3;";
    /** A chain of eight KNOTS, two lines between each and the next. */
    static final String DOUBLE_CHAIN = "knots 8;line 0 1;line 1 2;line 2 3;line 3 4;line 4 5;line 5 6;line 6 7;"
            + "line 0 1;line 1 2;line 2 3;line 3 4;line 4 5;line 5 6;line 6 7;";
    /** Four lines, of which two trees need each. */
    static final String TWO_TREES = "knots 3;line 0 1;line 0 1;line 1 2;line 1 2;";
    /** JOIN HAS it, by line 0; two lines more are OPEN. */
    static final String HAD = "knots 2;line 0 1;line 0 1;line 0 1;joined 0;";
    /** CUT HAS it; two lines are OPEN, the third is GONE. */
    static final String LOST = "knots 3;line 0 1;line 0 1;line 1 2;gone 2;";

    /**
     * Lines of all states: 0 is JOINED, 2 and 6 are GONE; OPEN are 1 within the PLACE 0, 3 and 4 between the ends
     * 0 and 4, 7 and 8 in a row beside them, 5 from there to KNOT 3.
     */
    static final String STANDING = "knots 5;line 0 1;line 0 1;line 1 4;line 1 4;line 0 4;line 2 3;line 2 3;line 1 2;line 2 4;"
            + "joined 0;gone 2;gone 6;";
    /** Likewise, 4 being GONE, too, so that who begins wins. */
    static final String STANDING_KEEN = STANDING + "gone 4;";

    private final Checks checks;
    private final Sentences sentences;

    Edges(Checks checks, Sentences sentences) {
        this.checks = checks;
        this.sentences = sentences;
    }

    abstract void run();

    final void terms(String words) {
        sentences.begin("Terms", words);
    }

    final void promise(int number, String words) {
        sentences.begin("Promise " + number, words);
    }

    final void introduction(String words) {
        sentences.begin("What it is", words);
    }

    final void due(String call, long want, long got) {
        checks.due(call, want, got);
    }

    final void due(String call, boolean want, boolean got) {
        checks.due(call, want ? 1 : 0, got ? 1 : 0);
    }

    final void same(String what, String want, String got) {
        checks.due(what + " '" + got + "' for '" + want + "'", 1, want.equals(got) ? 1 : 0);
    }

    /** The answers to first, to the number behind it, and so on. */
    final void row(String call, IntUnaryOperator asked, int first, int... wants) {
        for (int j = 0; j < wants.length; j++) {
            due(call + "(" + (first + j) + ")", wants[j], asked.applyAsInt(first + j));
        }
    }

    /** One answer to each of the numbers. */
    final void each(String call, IntUnaryOperator asked, int want, int... numbers) {
        for (int number : numbers) {
            due(call + "(" + number + ")", want, asked.applyAsInt(number));
        }
    }

    /** One answer to all numbers below: the next ones, far ones, and those that fewer bits would take for good ones. */
    final void below(String call, IntUnaryOperator asked, int want, int least) {
        each(call, asked, want, least - 1, least - 2, least - 3, least - 100, LOW, LOW + 1, LOW + 2, -256, -65536,
                -32 + least, -64 + least);
    }

    /** One answer to all numbers above, likewise. */
    final void above(String call, IntUnaryOperator asked, int want, int most) {
        each(call, asked, want, most + 1, most + 2, most + 3, most + 100, FAR, FAR - 1, 32, 33, 64, 256, 257, 65536,
                65537, 1 << 30);
    }

    final void beyond(String call, IntUnaryOperator asked, int want, int least, int most) {
        below(call, asked, want, least);
        above(call, asked, want, most);
    }

    /** So many lines between KNOTS 0 and 1, behind the words that stand ahead. */
    static String lines(String ahead, int many) {
        return ahead + "line 0 1;".repeat(many);
    }

    static SwitchGame game(String text) {
        return Tape.game(text);
    }
}
