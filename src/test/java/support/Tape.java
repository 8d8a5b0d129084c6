import java.nio.charset.StandardCharsets;

/** Gives texts to a game. */
public final class Tape {
    private Tape() {
    }

    public static byte[] bytesOf(String text) {
        return text.getBytes(StandardCharsets.ISO_8859_1);
    }

    /** Feeds a text, its end filled up with blanks; the answer of the last feed. */
    public static int feed(SwitchGame game, String text) {
        byte[] bytes = bytesOf(text);
        int answer = game.count(5);
        for (int at = 0; at < bytes.length; at += 20) {
            int[] numbers = new int[5];
            for (int i = 0; i < 20; i++) {
                int b = at + i < bytes.length ? bytes[at + i] & 255 : 32;
                numbers[i / 4] = numbers[i / 4] << 8 | b;
            }
            answer = game.feed(numbers[0], numbers[1], numbers[2], numbers[3], numbers[4]);
        }
        return answer;
    }

    public static int read(SwitchGame game, String text) {
        feed(game, text);
        return game.text(bytesOf(text).length);
    }

    public static SwitchGame game(String text) {
        SwitchGame game = new SwitchGame();
        int answer = read(game, text);
        if (answer < 0) {
            throw new IllegalStateException("text refused: " + text + " fault " + game.fault(0) + " at " + game.fault(1));
        }
        return game;
    }
}
