/** All that a game tells of its net and its moves, as one text. */
public final class State {
    private State() {
    }

    public static String of(SwitchGame game) {
        StringBuilder state = new StringBuilder();
        for (int what = 0; what < 7; what++) {
            state.append(game.now(what)).append(' ');
        }
        for (int what = 0; what < 5; what++) {
            state.append(game.count(what)).append(' ');
        }
        for (int i = 0; i < game.count(1); i++) {
            state.append(game.line(i, 0)).append(game.line(i, 1)).append(game.line(i, 2)).append(' ');
        }
        for (int k = 0; k < game.now(6); k++) {
            state.append(game.written(k)).append(' ');
        }
        return state.toString();
    }

    /** Likewise, with the latest FAULT and the bytes of the TAPE. */
    public static String withTape(SwitchGame game) {
        return of(game) + game.fault(0) + ' ' + game.fault(1) + ' ' + game.count(5);
    }
}
