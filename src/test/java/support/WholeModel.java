/** The Model with a TAPE and texts on it: with those of the Model it has all calls of the face. */
public final class WholeModel {
    public Model net = new Model();
    private final StringBuilder tape = new StringBuilder();
    private int faultNumber = 0;
    private int faultPlace = -1;

    public int feed(int a, int b, int c, int d, int e) {
        if (tape.length() > 580) {
            return -1;
        }
        for (int number : new int[] {a, b, c, d, e}) {
            for (int shift = 24; shift >= 0; shift -= 8) {
                tape.append((char) (number >> shift & 255));
            }
        }
        return tape.length();
    }

    public int text(int n) {
        if (n < 0 || n > tape.length()) {
            return -2;
        }
        String text = tape.substring(0, n);
        tape.setLength(0);
        try {
            net = Reading.of(text);
            faultNumber = 0;
            faultPlace = -1;
            return net.told;
        } catch (Reading.Fault fault) {
            faultNumber = fault.number;
            faultPlace = fault.place;
            return -1;
        }
    }

    public int fault(int what) {
        switch (what) {
            case 0: return faultNumber;
            case 1: return faultPlace;
            default: return -1;
        }
    }

    public int count(int what) {
        return what == 5 ? tape.length() : net.count(what);
    }

    public int tapeLength() {
        return tape.length();
    }
}
