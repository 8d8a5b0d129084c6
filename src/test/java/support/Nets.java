import java.util.Random;

/** Nets by chance, as a text and as a Model. */
public final class Nets {
    private Nets() {
    }

    /** Knots, ends, lines with their states, who moves first; the Model is filled alike. */
    public static String text(Random random, Model model, int knots, int lines, int shareStanding) {
        StringBuilder text = new StringBuilder();
        model.knots = knots;
        model.endA = 0;
        model.endB = knots - 1;
        model.told = 1;
        text.append("knots ").append(knots).append(';');
        if (random.nextBoolean()) {
            model.endA = random.nextInt(knots);
            model.endB = (model.endA + 1 + random.nextInt(knots - 1)) % knots;
            text.append("ends ").append(model.endA).append(' ').append(model.endB).append(';');
            model.told++;
        }
        model.state = new int[lines];
        int busy = 2 + random.nextInt(knots - 1);
        for (int i = 0; i < lines; i++) {
            int a = random.nextInt(busy);
            int b = (a + 1 + random.nextInt(busy - 1)) % busy;
            model.lines.add(new int[] {a, b});
            text.append("line ").append(a).append(' ').append(b).append(';');
            model.told++;
        }
        for (int i = 0; i < lines; i++) {
            if (random.nextInt(100) < shareStanding) {
                boolean joined = random.nextBoolean();
                model.state[i] = joined ? 1 : 2;
                text.append(joined ? "joined " : "gone ").append(i).append(';');
                model.told++;
            }
        }
        if (random.nextBoolean()) {
            model.mover = random.nextInt(2);
            text.append(model.mover == 0 ? "first join;" : "first cut;");
            model.told++;
        }
        return text.toString();
    }
}
