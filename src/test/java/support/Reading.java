import java.util.ArrayList;
import java.util.List;
import java.util.regex.Matcher;
import java.util.regex.Pattern;

/** A second reading of texts: all tokens first, then sentence by sentence. */
public final class Reading {
    private static final Pattern TOKEN = Pattern.compile("[a-z]+|[0-9]+|[^ \n]", Pattern.DOTALL);

    private Reading() {
    }

    /** What is wrong with a text, and where. */
    public static final class Fault extends Exception {
        private static final long serialVersionUID = 1L;
        public final int number;
        public final int place;

        private Fault(int number, int place) {
            this.number = number;
            this.place = place;
        }
    }

    public static Model of(String text) throws Fault {
        List<String> words = new ArrayList<>();
        List<Integer> places = new ArrayList<>();
        Matcher matcher = TOKEN.matcher(text);
        while (matcher.find()) {
            words.add(matcher.group());
            places.add(matcher.start());
        }
        words.add("");
        places.add(text.length());
        Model model = new Model();
        model.state = new int[14];
        List<String> once = new ArrayList<>();
        int at = 0;
        while (!words.get(at).isEmpty()) {
            String word = words.get(at);
            if (once.isEmpty() != word.equals("knots") && once.isEmpty()) {
                throw new Fault(1, places.get(at));
            }
            if (!word.matches("knots|ends|line|joined|gone|first")) {
                throw new Fault(1, places.get(at));
            }
            if (word.matches("knots|ends|first") && once.contains(word)) {
                throw new Fault(3, places.get(at));
            }
            if (word.equals("line") && model.lines.size() == 14) {
                throw new Fault(2, places.get(at));
            }
            once.add(word);
            int arguments = word.equals("line") || word.equals("ends") ? 2 : 1;
            int[] value = new int[2];
            for (int a = 0; a < arguments; a++) {
                at++;
                String token = words.get(at);
                int place = places.get(at);
                if (word.equals("first")) {
                    if (!token.matches("join|cut")) {
                        throw new Fault(1, place);
                    }
                    model.mover = token.equals("join") ? 0 : 1;
                    continue;
                }
                if (!token.matches("[0-9]+")) {
                    throw new Fault(1, place);
                }
                java.math.BigInteger big = new java.math.BigInteger(token);
                int number = big.bitLength() > 20 ? 1 << 20 : big.intValue();
                value[a] = number;
                if (word.equals("knots") && (number < 2 || number > 8)) {
                    throw new Fault(2, place);
                }
                if (arguments == 2 && number >= model.knots) {
                    throw new Fault(1, place);
                }
                if (a == 1 && number == value[0]) {
                    throw new Fault(3, place);
                }
                if (word.matches("joined|gone")) {
                    if (number >= model.lines.size()) {
                        throw new Fault(1, place);
                    }
                    if (model.state[number] != 0) {
                        throw new Fault(3, place);
                    }
                    model.state[number] = word.equals("joined") ? 1 : 2;
                }
            }
            if (word.equals("knots")) {
                model.knots = value[0];
                model.endB = value[0] - 1;
            } else if (word.equals("ends")) {
                model.endA = value[0];
                model.endB = value[1];
            } else if (word.equals("line")) {
                model.lines.add(value);
            }
            at++;
            if (!words.get(at).equals(";")) {
                throw new Fault(1, places.get(at));
            }
            at++;
            model.told++;
        }
        model.state = java.util.Arrays.copyOf(model.state, model.lines.size());
        return model;
    }
}
